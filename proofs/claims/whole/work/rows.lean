section
-- ===== PART A: goes FIRST, ahead of the names: the tables' words, and 'selects' of the private methods out of them =====
/-- a private method of a class that the tables say can be made, by its rows of tables_1 -/
def lw_okq (q : MethodName × Nat) : Prop := (q.1.cls ≠ "java/lang/invoke/MethodHandle" ∧ q.1.cls ≠ "java/lang/invoke/VarHandle") ∧ Cond.instantiable q.1.cls q.2 ∈ tables_1 ∧ Cond.privateMethod q.1 ∈ tables_1 ∧ Cond.instanceMethod q.1 ∈ tables_1
theorem lw_p0 : lw_okq (⟨"SplitTowers$Poly", "lowerDegree", "()V"⟩, 2) := ⟨⟨by decide +kernel, by decide +kernel⟩, List.mem_of_getElem? (i := 28) (by decide +kernel), List.mem_of_getElem? (i := 68) (by decide +kernel), List.mem_of_getElem? (i := 69) (by decide +kernel)⟩
theorem lw_p1 : lw_okq (⟨"SplitTowers$State", "becomeOneBranch", "()V"⟩, 5) := ⟨⟨by decide +kernel, by decide +kernel⟩, List.mem_of_getElem? (i := 22) (by decide +kernel), List.mem_of_getElem? (i := 73) (by decide +kernel), List.mem_of_getElem? (i := 74) (by decide +kernel)⟩
theorem lw_p2 : lw_okq (⟨"SplitTowers$Text", "tell", "(I)V"⟩, 4) := ⟨⟨by decide +kernel, by decide +kernel⟩, List.mem_of_getElem? (i := 115) (by decide +kernel), List.mem_of_getElem? (i := 404) (by decide +kernel), List.mem_of_getElem? (i := 405) (by decide +kernel)⟩
theorem lw_p3 : lw_okq (⟨"SplitTowers", "isModulusTold", "()Z"⟩, 11) := ⟨⟨by decide +kernel, by decide +kernel⟩, List.mem_of_getElem? (i := 14) (by decide +kernel), List.mem_of_getElem? (i := 408) (by decide +kernel), List.mem_of_getElem? (i := 409) (by decide +kernel)⟩
theorem lw_p4 : lw_okq (⟨"SplitTowers", "isPlace", "(I)Z"⟩, 11) := ⟨⟨by decide +kernel, by decide +kernel⟩, List.mem_of_getElem? (i := 14) (by decide +kernel), List.mem_of_getElem? (i := 472) (by decide +kernel), List.mem_of_getElem? (i := 473) (by decide +kernel)⟩
theorem lw_p5 : lw_okq (⟨"SplitTowers$Reckoner", "startSum", "()V"⟩, 10) := ⟨⟨by decide +kernel, by decide +kernel⟩, List.mem_of_getElem? (i := 277) (by decide +kernel), List.mem_of_getElem? (i := 501) (by decide +kernel), List.mem_of_getElem? (i := 502) (by decide +kernel)⟩
theorem lw_p6 : lw_okq (⟨"SplitTowers$Reckoner", "startProduct", "()V"⟩, 10) := ⟨⟨by decide +kernel, by decide +kernel⟩, List.mem_of_getElem? (i := 277) (by decide +kernel), List.mem_of_getElem? (i := 506) (by decide +kernel), List.mem_of_getElem? (i := 507) (by decide +kernel)⟩
theorem lw_p7 : lw_okq (⟨"SplitTowers$Reckoner", "endFactor", "()V"⟩, 10) := ⟨⟨by decide +kernel, by decide +kernel⟩, List.mem_of_getElem? (i := 277) (by decide +kernel), List.mem_of_getElem? (i := 516) (by decide +kernel), List.mem_of_getElem? (i := 517) (by decide +kernel)⟩
theorem lw_p8 : lw_okq (⟨"SplitTowers$Reckoner", "endProduct", "()V"⟩, 10) := ⟨⟨by decide +kernel, by decide +kernel⟩, List.mem_of_getElem? (i := 277) (by decide +kernel), List.mem_of_getElem? (i := 562) (by decide +kernel), List.mem_of_getElem? (i := 563) (by decide +kernel)⟩
theorem lw_p9 : lw_okq (⟨"SplitTowers$Reckoner", "takeSimpleOrExponent", "(IZ)V"⟩, 10) := ⟨⟨by decide +kernel, by decide +kernel⟩, List.mem_of_getElem? (i := 277) (by decide +kernel), List.mem_of_getElem? (i := 573) (by decide +kernel), List.mem_of_getElem? (i := 574) (by decide +kernel)⟩
theorem lw_p10 : lw_okq (⟨"SplitTowers", "isBranch", "(I)Z"⟩, 11) := ⟨⟨by decide +kernel, by decide +kernel⟩, List.mem_of_getElem? (i := 14) (by decide +kernel), List.mem_of_getElem? (i := 594) (by decide +kernel), List.mem_of_getElem? (i := 595) (by decide +kernel)⟩
theorem lw_p11 : lw_okq (⟨"SplitTowers$Branching", "findBranch", "(LSplitTowers$Poly;)I"⟩, 6) := ⟨⟨by decide +kernel, by decide +kernel⟩, List.mem_of_getElem? (i := 216) (by decide +kernel), List.mem_of_getElem? (i := 652) (by decide +kernel), List.mem_of_getElem? (i := 653) (by decide +kernel)⟩
theorem lw_p12 : lw_okq (⟨"SplitTowers$Ring", "reduceByRows", "()V"⟩, 12) := ⟨⟨by decide +kernel, by decide +kernel⟩, List.mem_of_getElem? (i := 171) (by decide +kernel), List.mem_of_getElem? (i := 740) (by decide +kernel), List.mem_of_getElem? (i := 741) (by decide +kernel)⟩
theorem lw_p13 : lw_okq (⟨"SplitTowersModel", "resets", "()V"⟩, 15) := ⟨⟨by decide +kernel, by decide +kernel⟩, List.mem_of_getElem? (i := 801) (by decide +kernel), List.mem_of_getElem? (i := 807) (by decide +kernel), List.mem_of_getElem? (i := 808) (by decide +kernel)⟩
theorem lw_p14 : lw_okq (⟨"SplitTowersModel", "record", "()V"⟩, 15) := ⟨⟨by decide +kernel, by decide +kernel⟩, List.mem_of_getElem? (i := 801) (by decide +kernel), List.mem_of_getElem? (i := 862) (by decide +kernel), List.mem_of_getElem? (i := 863) (by decide +kernel)⟩
theorem lw_p15 : lw_okq (⟨"SplitTowersModel", "coefficients", "()I"⟩, 15) := ⟨⟨by decide +kernel, by decide +kernel⟩, List.mem_of_getElem? (i := 801) (by decide +kernel), List.mem_of_getElem? (i := 870) (by decide +kernel), List.mem_of_getElem? (i := 871) (by decide +kernel)⟩
def lw_privs_1 : List (MethodName × Nat) := [(⟨"SplitTowers$Poly", "lowerDegree", "()V"⟩, 2), (⟨"SplitTowers$State", "becomeOneBranch", "()V"⟩, 5), (⟨"SplitTowers$Text", "tell", "(I)V"⟩, 4), (⟨"SplitTowers", "isModulusTold", "()Z"⟩, 11), (⟨"SplitTowers", "isPlace", "(I)Z"⟩, 11), (⟨"SplitTowers$Reckoner", "startSum", "()V"⟩, 10), (⟨"SplitTowers$Reckoner", "startProduct", "()V"⟩, 10), (⟨"SplitTowers$Reckoner", "endFactor", "()V"⟩, 10), (⟨"SplitTowers$Reckoner", "endProduct", "()V"⟩, 10), (⟨"SplitTowers$Reckoner", "takeSimpleOrExponent", "(IZ)V"⟩, 10), (⟨"SplitTowers", "isBranch", "(I)Z"⟩, 11), (⟨"SplitTowers$Branching", "findBranch", "(LSplitTowers$Poly;)I"⟩, 6), (⟨"SplitTowers$Ring", "reduceByRows", "()V"⟩, 12), (⟨"SplitTowersModel", "resets", "()V"⟩, 15), (⟨"SplitTowersModel", "record", "()V"⟩, 15), (⟨"SplitTowersModel", "coefficients", "()I"⟩, 15)]
theorem lw_r1 : ∀ q ∈ lw_privs_1, lw_okq q := List.forall_mem_cons.mpr ⟨lw_p0, List.forall_mem_cons.mpr ⟨lw_p1, List.forall_mem_cons.mpr ⟨lw_p2, List.forall_mem_cons.mpr ⟨lw_p3, List.forall_mem_cons.mpr ⟨lw_p4, List.forall_mem_cons.mpr ⟨lw_p5, List.forall_mem_cons.mpr ⟨lw_p6, List.forall_mem_cons.mpr ⟨lw_p7, List.forall_mem_cons.mpr ⟨lw_p8, List.forall_mem_cons.mpr ⟨lw_p9, List.forall_mem_cons.mpr ⟨lw_p10, List.forall_mem_cons.mpr ⟨lw_p11, List.forall_mem_cons.mpr ⟨lw_p12, List.forall_mem_cons.mpr ⟨lw_p13, List.forall_mem_cons.mpr ⟨lw_p14, List.forall_mem_cons.mpr ⟨lw_p15, fun _ h => absurd h List.not_mem_nil⟩⟩⟩⟩⟩⟩⟩⟩⟩⟩⟩⟩⟩⟩⟩⟩
theorem lw_p16 : lw_okq (⟨"SplitTowersModel", "isBetween", "(II)Z"⟩, 15) := ⟨⟨by decide +kernel, by decide +kernel⟩, List.mem_of_getElem? (i := 801) (by decide +kernel), List.mem_of_getElem? (i := 874) (by decide +kernel), List.mem_of_getElem? (i := 875) (by decide +kernel)⟩
theorem lw_p17 : lw_okq (⟨"SplitTowersModel", "takes", "(I)Z"⟩, 15) := ⟨⟨by decide +kernel, by decide +kernel⟩, List.mem_of_getElem? (i := 801) (by decide +kernel), List.mem_of_getElem? (i := 881) (by decide +kernel), List.mem_of_getElem? (i := 882) (by decide +kernel)⟩
theorem lw_p18 : lw_okq (⟨"SplitTowersModel", "clears", "(I)V"⟩, 15) := ⟨⟨by decide +kernel, by decide +kernel⟩, List.mem_of_getElem? (i := 801) (by decide +kernel), List.mem_of_getElem? (i := 885) (by decide +kernel), List.mem_of_getElem? (i := 886) (by decide +kernel)⟩
theorem lw_p19 : lw_okq (⟨"SplitTowersModel", "puts", "(III)V"⟩, 15) := ⟨⟨by decide +kernel, by decide +kernel⟩, List.mem_of_getElem? (i := 801) (by decide +kernel), List.mem_of_getElem? (i := 889) (by decide +kernel), List.mem_of_getElem? (i := 890) (by decide +kernel)⟩
theorem lw_p20 : lw_okq (⟨"SplitTowersModel", "derives", "(II)V"⟩, 15) := ⟨⟨by decide +kernel, by decide +kernel⟩, List.mem_of_getElem? (i := 801) (by decide +kernel), List.mem_of_getElem? (i := 893) (by decide +kernel), List.mem_of_getElem? (i := 894) (by decide +kernel)⟩
theorem lw_p21 : lw_okq (⟨"SplitTowersModel", "of", "(II)I"⟩, 15) := ⟨⟨by decide +kernel, by decide +kernel⟩, List.mem_of_getElem? (i := 801) (by decide +kernel), List.mem_of_getElem? (i := 897) (by decide +kernel), List.mem_of_getElem? (i := 898) (by decide +kernel)⟩
theorem lw_p22 : lw_okq (⟨"SplitTowersModel", "common", "(III)V"⟩, 15) := ⟨⟨by decide +kernel, by decide +kernel⟩, List.mem_of_getElem? (i := 801) (by decide +kernel), List.mem_of_getElem? (i := 901) (by decide +kernel), List.mem_of_getElem? (i := 902) (by decide +kernel)⟩
theorem lw_p23 : lw_okq (⟨"SplitTowersModel", "copies", "(II)V"⟩, 15) := ⟨⟨by decide +kernel, by decide +kernel⟩, List.mem_of_getElem? (i := 801) (by decide +kernel), List.mem_of_getElem? (i := 905) (by decide +kernel), List.mem_of_getElem? (i := 906) (by decide +kernel)⟩
theorem lw_p24 : lw_okq (⟨"SplitTowersModel", "degree", "(I)I"⟩, 15) := ⟨⟨by decide +kernel, by decide +kernel⟩, List.mem_of_getElem? (i := 801) (by decide +kernel), List.mem_of_getElem? (i := 909) (by decide +kernel), List.mem_of_getElem? (i := 910) (by decide +kernel)⟩
theorem lw_p25 : lw_okq (⟨"SplitTowersModel", "divides", "(III)V"⟩, 15) := ⟨⟨by decide +kernel, by decide +kernel⟩, List.mem_of_getElem? (i := 801) (by decide +kernel), List.mem_of_getElem? (i := 913) (by decide +kernel), List.mem_of_getElem? (i := 914) (by decide +kernel)⟩
theorem lw_p26 : lw_okq (⟨"SplitTowersModel", "inverse", "(I)I"⟩, 15) := ⟨⟨by decide +kernel, by decide +kernel⟩, List.mem_of_getElem? (i := 801) (by decide +kernel), List.mem_of_getElem? (i := 917) (by decide +kernel), List.mem_of_getElem? (i := 918) (by decide +kernel)⟩
theorem lw_p27 : lw_okq (⟨"SplitTowersModel", "monic", "(I)V"⟩, 15) := ⟨⟨by decide +kernel, by decide +kernel⟩, List.mem_of_getElem? (i := 801) (by decide +kernel), List.mem_of_getElem? (i := 921) (by decide +kernel), List.mem_of_getElem? (i := 922) (by decide +kernel)⟩
theorem lw_p28 : lw_okq (⟨"SplitTowersModel", "loadsNumber", "(II)V"⟩, 15) := ⟨⟨by decide +kernel, by decide +kernel⟩, List.mem_of_getElem? (i := 801) (by decide +kernel), List.mem_of_getElem? (i := 925) (by decide +kernel), List.mem_of_getElem? (i := 926) (by decide +kernel)⟩
theorem lw_p29 : lw_okq (⟨"SplitTowersModel", "loads", "(III)V"⟩, 15) := ⟨⟨by decide +kernel, by decide +kernel⟩, List.mem_of_getElem? (i := 801) (by decide +kernel), List.mem_of_getElem? (i := 929) (by decide +kernel), List.mem_of_getElem? (i := 930) (by decide +kernel)⟩
theorem lw_p30 : lw_okq (⟨"SplitTowersModel", "stores", "(II)V"⟩, 15) := ⟨⟨by decide +kernel, by decide +kernel⟩, List.mem_of_getElem? (i := 801) (by decide +kernel), List.mem_of_getElem? (i := 933) (by decide +kernel), List.mem_of_getElem? (i := 934) (by decide +kernel)⟩
theorem lw_p31 : lw_okq (⟨"SplitTowersModel", "comes", "(I)V"⟩, 15) := ⟨⟨by decide +kernel, by decide +kernel⟩, List.mem_of_getElem? (i := 801) (by decide +kernel), List.mem_of_getElem? (i := 937) (by decide +kernel), List.mem_of_getElem? (i := 938) (by decide +kernel)⟩
def lw_privs_2 : List (MethodName × Nat) := [(⟨"SplitTowersModel", "isBetween", "(II)Z"⟩, 15), (⟨"SplitTowersModel", "takes", "(I)Z"⟩, 15), (⟨"SplitTowersModel", "clears", "(I)V"⟩, 15), (⟨"SplitTowersModel", "puts", "(III)V"⟩, 15), (⟨"SplitTowersModel", "derives", "(II)V"⟩, 15), (⟨"SplitTowersModel", "of", "(II)I"⟩, 15), (⟨"SplitTowersModel", "common", "(III)V"⟩, 15), (⟨"SplitTowersModel", "copies", "(II)V"⟩, 15), (⟨"SplitTowersModel", "degree", "(I)I"⟩, 15), (⟨"SplitTowersModel", "divides", "(III)V"⟩, 15), (⟨"SplitTowersModel", "inverse", "(I)I"⟩, 15), (⟨"SplitTowersModel", "monic", "(I)V"⟩, 15), (⟨"SplitTowersModel", "loadsNumber", "(II)V"⟩, 15), (⟨"SplitTowersModel", "loads", "(III)V"⟩, 15), (⟨"SplitTowersModel", "stores", "(II)V"⟩, 15), (⟨"SplitTowersModel", "comes", "(I)V"⟩, 15)]
theorem lw_r2 : ∀ q ∈ lw_privs_2, lw_okq q := List.forall_mem_cons.mpr ⟨lw_p16, List.forall_mem_cons.mpr ⟨lw_p17, List.forall_mem_cons.mpr ⟨lw_p18, List.forall_mem_cons.mpr ⟨lw_p19, List.forall_mem_cons.mpr ⟨lw_p20, List.forall_mem_cons.mpr ⟨lw_p21, List.forall_mem_cons.mpr ⟨lw_p22, List.forall_mem_cons.mpr ⟨lw_p23, List.forall_mem_cons.mpr ⟨lw_p24, List.forall_mem_cons.mpr ⟨lw_p25, List.forall_mem_cons.mpr ⟨lw_p26, List.forall_mem_cons.mpr ⟨lw_p27, List.forall_mem_cons.mpr ⟨lw_p28, List.forall_mem_cons.mpr ⟨lw_p29, List.forall_mem_cons.mpr ⟨lw_p30, List.forall_mem_cons.mpr ⟨lw_p31, fun _ h => absurd h List.not_mem_nil⟩⟩⟩⟩⟩⟩⟩⟩⟩⟩⟩⟩⟩⟩⟩⟩
theorem lw_p32 : lw_okq (⟨"SplitTowersModel", "lays", "(II)V"⟩, 15) := ⟨⟨by decide +kernel, by decide +kernel⟩, List.mem_of_getElem? (i := 801) (by decide +kernel), List.mem_of_getElem? (i := 941) (by decide +kernel), List.mem_of_getElem? (i := 942) (by decide +kernel)⟩
theorem lw_p33 : lw_okq (⟨"SplitTowersModel", "noPlace", "(I)Z"⟩, 15) := ⟨⟨by decide +kernel, by decide +kernel⟩, List.mem_of_getElem? (i := 801) (by decide +kernel), List.mem_of_getElem? (i := 952) (by decide +kernel), List.mem_of_getElem? (i := 953) (by decide +kernel)⟩
theorem lw_p34 : lw_okq (⟨"SplitTowersModel", "degreeOfModulus", "()I"⟩, 15) := ⟨⟨by decide +kernel, by decide +kernel⟩, List.mem_of_getElem? (i := 801) (by decide +kernel), List.mem_of_getElem? (i := 956) (by decide +kernel), List.mem_of_getElem? (i := 957) (by decide +kernel)⟩
theorem lw_p35 : lw_okq (⟨"SplitTowersModel", "loadsModulus", "()V"⟩, 15) := ⟨⟨by decide +kernel, by decide +kernel⟩, List.mem_of_getElem? (i := 801) (by decide +kernel), List.mem_of_getElem? (i := 960) (by decide +kernel), List.mem_of_getElem? (i := 961) (by decide +kernel)⟩
theorem lw_p36 : lw_okq (⟨"SplitTowersModel", "noBranch", "(I)Z"⟩, 15) := ⟨⟨by decide +kernel, by decide +kernel⟩, List.mem_of_getElem? (i := 801) (by decide +kernel), List.mem_of_getElem? (i := 968) (by decide +kernel), List.mem_of_getElem? (i := 969) (by decide +kernel)⟩
theorem lw_p37 : lw_okq (⟨"SplitTowersModel", "loadsBranch", "(II)V"⟩, 15) := ⟨⟨by decide +kernel, by decide +kernel⟩, List.mem_of_getElem? (i := 801) (by decide +kernel), List.mem_of_getElem? (i := 972) (by decide +kernel), List.mem_of_getElem? (i := 973) (by decide +kernel)⟩
theorem lw_p38 : lw_okq (⟨"SplitTowersModel", "unitOf", "(I)V"⟩, 15) := ⟨⟨by decide +kernel, by decide +kernel⟩, List.mem_of_getElem? (i := 801) (by decide +kernel), List.mem_of_getElem? (i := 976) (by decide +kernel), List.mem_of_getElem? (i := 977) (by decide +kernel)⟩
theorem lw_p39 : lw_okq (⟨"SplitTowersModel", "inverts", "(III)V"⟩, 15) := ⟨⟨by decide +kernel, by decide +kernel⟩, List.mem_of_getElem? (i := 801) (by decide +kernel), List.mem_of_getElem? (i := 980) (by decide +kernel), List.mem_of_getElem? (i := 981) (by decide +kernel)⟩
theorem lw_p40 : lw_okq (⟨"SplitTowersModel", "constant", "(II)V"⟩, 15) := ⟨⟨by decide +kernel, by decide +kernel⟩, List.mem_of_getElem? (i := 801) (by decide +kernel), List.mem_of_getElem? (i := 984) (by decide +kernel), List.mem_of_getElem? (i := 985) (by decide +kernel)⟩
theorem lw_p41 : lw_okq (⟨"SplitTowersModel", "multiplies", "(III)V"⟩, 15) := ⟨⟨by decide +kernel, by decide +kernel⟩, List.mem_of_getElem? (i := 801) (by decide +kernel), List.mem_of_getElem? (i := 988) (by decide +kernel), List.mem_of_getElem? (i := 989) (by decide +kernel)⟩
theorem lw_p42 : lw_okq (⟨"SplitTowersModel", "adds", "(III)V"⟩, 15) := ⟨⟨by decide +kernel, by decide +kernel⟩, List.mem_of_getElem? (i := 801) (by decide +kernel), List.mem_of_getElem? (i := 992) (by decide +kernel), List.mem_of_getElem? (i := 993) (by decide +kernel)⟩
theorem lw_p43 : lw_okq (⟨"SplitTowersModel", "kindIn", "(I)I"⟩, 15) := ⟨⟨by decide +kernel, by decide +kernel⟩, List.mem_of_getElem? (i := 801) (by decide +kernel), List.mem_of_getElem? (i := 996) (by decide +kernel), List.mem_of_getElem? (i := 997) (by decide +kernel)⟩
theorem lw_p44 : lw_okq (⟨"SplitTowersModel", "remembers", "()V"⟩, 15) := ⟨⟨by decide +kernel, by decide +kernel⟩, List.mem_of_getElem? (i := 801) (by decide +kernel), List.mem_of_getElem? (i := 1004) (by decide +kernel), List.mem_of_getElem? (i := 1005) (by decide +kernel)⟩
theorem lw_p45 : lw_okq (⟨"SplitTowersModel", "parts", "(I)Z"⟩, 15) := ⟨⟨by decide +kernel, by decide +kernel⟩, List.mem_of_getElem? (i := 801) (by decide +kernel), List.mem_of_getElem? (i := 1008) (by decide +kernel), List.mem_of_getElem? (i := 1009) (by decide +kernel)⟩
theorem lw_p46 : lw_okq (⟨"SplitTowersModel", "sorts", "()V"⟩, 15) := ⟨⟨by decide +kernel, by decide +kernel⟩, List.mem_of_getElem? (i := 801) (by decide +kernel), List.mem_of_getElem? (i := 1012) (by decide +kernel), List.mem_of_getElem? (i := 1013) (by decide +kernel)⟩
theorem lw_p47 : lw_okq (⟨"SplitTowersModel", "isBefore", "(II)Z"⟩, 15) := ⟨⟨by decide +kernel, by decide +kernel⟩, List.mem_of_getElem? (i := 801) (by decide +kernel), List.mem_of_getElem? (i := 1016) (by decide +kernel), List.mem_of_getElem? (i := 1017) (by decide +kernel)⟩
def lw_privs_3 : List (MethodName × Nat) := [(⟨"SplitTowersModel", "lays", "(II)V"⟩, 15), (⟨"SplitTowersModel", "noPlace", "(I)Z"⟩, 15), (⟨"SplitTowersModel", "degreeOfModulus", "()I"⟩, 15), (⟨"SplitTowersModel", "loadsModulus", "()V"⟩, 15), (⟨"SplitTowersModel", "noBranch", "(I)Z"⟩, 15), (⟨"SplitTowersModel", "loadsBranch", "(II)V"⟩, 15), (⟨"SplitTowersModel", "unitOf", "(I)V"⟩, 15), (⟨"SplitTowersModel", "inverts", "(III)V"⟩, 15), (⟨"SplitTowersModel", "constant", "(II)V"⟩, 15), (⟨"SplitTowersModel", "multiplies", "(III)V"⟩, 15), (⟨"SplitTowersModel", "adds", "(III)V"⟩, 15), (⟨"SplitTowersModel", "kindIn", "(I)I"⟩, 15), (⟨"SplitTowersModel", "remembers", "()V"⟩, 15), (⟨"SplitTowersModel", "parts", "(I)Z"⟩, 15), (⟨"SplitTowersModel", "sorts", "()V"⟩, 15), (⟨"SplitTowersModel", "isBefore", "(II)Z"⟩, 15)]
theorem lw_r3 : ∀ q ∈ lw_privs_3, lw_okq q := List.forall_mem_cons.mpr ⟨lw_p32, List.forall_mem_cons.mpr ⟨lw_p33, List.forall_mem_cons.mpr ⟨lw_p34, List.forall_mem_cons.mpr ⟨lw_p35, List.forall_mem_cons.mpr ⟨lw_p36, List.forall_mem_cons.mpr ⟨lw_p37, List.forall_mem_cons.mpr ⟨lw_p38, List.forall_mem_cons.mpr ⟨lw_p39, List.forall_mem_cons.mpr ⟨lw_p40, List.forall_mem_cons.mpr ⟨lw_p41, List.forall_mem_cons.mpr ⟨lw_p42, List.forall_mem_cons.mpr ⟨lw_p43, List.forall_mem_cons.mpr ⟨lw_p44, List.forall_mem_cons.mpr ⟨lw_p45, List.forall_mem_cons.mpr ⟨lw_p46, List.forall_mem_cons.mpr ⟨lw_p47, fun _ h => absurd h List.not_mem_nil⟩⟩⟩⟩⟩⟩⟩⟩⟩⟩⟩⟩⟩⟩⟩⟩
theorem lw_p48 : lw_okq (⟨"SplitTowersModel", "swaps", "(II)V"⟩, 15) := ⟨⟨by decide +kernel, by decide +kernel⟩, List.mem_of_getElem? (i := 801) (by decide +kernel), List.mem_of_getElem? (i := 1020) (by decide +kernel), List.mem_of_getElem? (i := 1021) (by decide +kernel)⟩
theorem lw_p49 : lw_okq (⟨"SplitTowersModel", "recordsBefore", "()V"⟩, 15) := ⟨⟨by decide +kernel, by decide +kernel⟩, List.mem_of_getElem? (i := 801) (by decide +kernel), List.mem_of_getElem? (i := 1024) (by decide +kernel), List.mem_of_getElem? (i := 1025) (by decide +kernel)⟩
theorem lw_p50 : lw_okq (⟨"SplitTowersModel", "nothings", "(I)I"⟩, 15) := ⟨⟨by decide +kernel, by decide +kernel⟩, List.mem_of_getElem? (i := 801) (by decide +kernel), List.mem_of_getElem? (i := 1028) (by decide +kernel), List.mem_of_getElem? (i := 1029) (by decide +kernel)⟩
theorem lw_p51 : lw_okq (⟨"SplitTowersModel", "takesDegree", "(II)V"⟩, 15) := ⟨⟨by decide +kernel, by decide +kernel⟩, List.mem_of_getElem? (i := 801) (by decide +kernel), List.mem_of_getElem? (i := 1036) (by decide +kernel), List.mem_of_getElem? (i := 1037) (by decide +kernel)⟩
theorem lw_p52 : lw_okq (⟨"SplitTowersModel", "raises", "(IIII)V"⟩, 15) := ⟨⟨by decide +kernel, by decide +kernel⟩, List.mem_of_getElem? (i := 801) (by decide +kernel), List.mem_of_getElem? (i := 1040) (by decide +kernel), List.mem_of_getElem? (i := 1041) (by decide +kernel)⟩
theorem lw_p53 : lw_okq (⟨"SplitTowersModel", "goes", "(I)V"⟩, 15) := ⟨⟨by decide +kernel, by decide +kernel⟩, List.mem_of_getElem? (i := 801) (by decide +kernel), List.mem_of_getElem? (i := 1048) (by decide +kernel), List.mem_of_getElem? (i := 1049) (by decide +kernel)⟩
theorem lw_p54 : lw_okq (⟨"SplitTowersModel", "placeOf", "(I)I"⟩, 15) := ⟨⟨by decide +kernel, by decide +kernel⟩, List.mem_of_getElem? (i := 801) (by decide +kernel), List.mem_of_getElem? (i := 1052) (by decide +kernel), List.mem_of_getElem? (i := 1053) (by decide +kernel)⟩
theorem lw_p55 : lw_okq (⟨"SplitTowersModel", "goesAlong", "(Z)Z"⟩, 15) := ⟨⟨by decide +kernel, by decide +kernel⟩, List.mem_of_getElem? (i := 801) (by decide +kernel), List.mem_of_getElem? (i := 1072) (by decide +kernel), List.mem_of_getElem? (i := 1073) (by decide +kernel)⟩
theorem lw_p56 : lw_okq (⟨"SplitTowersModel", "takesSimple", "(Z)Z"⟩, 15) := ⟨⟨by decide +kernel, by decide +kernel⟩, List.mem_of_getElem? (i := 801) (by decide +kernel), List.mem_of_getElem? (i := 1076) (by decide +kernel), List.mem_of_getElem? (i := 1077) (by decide +kernel)⟩
theorem lw_p57 : lw_okq (⟨"SplitTowersModel", "takesPower", "(Z)Z"⟩, 15) := ⟨⟨by decide +kernel, by decide +kernel⟩, List.mem_of_getElem? (i := 801) (by decide +kernel), List.mem_of_getElem? (i := 1080) (by decide +kernel), List.mem_of_getElem? (i := 1081) (by decide +kernel)⟩
theorem lw_p58 : lw_okq (⟨"SplitTowersModel", "joinsProduct", "(IZ)V"⟩, 15) := ⟨⟨by decide +kernel, by decide +kernel⟩, List.mem_of_getElem? (i := 801) (by decide +kernel), List.mem_of_getElem? (i := 1084) (by decide +kernel), List.mem_of_getElem? (i := 1085) (by decide +kernel)⟩
theorem lw_p59 : lw_okq (⟨"SplitTowersModel", "quotient", "(III)V"⟩, 15) := ⟨⟨by decide +kernel, by decide +kernel⟩, List.mem_of_getElem? (i := 801) (by decide +kernel), List.mem_of_getElem? (i := 1088) (by decide +kernel), List.mem_of_getElem? (i := 1089) (by decide +kernel)⟩
theorem lw_p60 : lw_okq (⟨"SplitTowersModel", "joinsSum", "(IZ)V"⟩, 15) := ⟨⟨by decide +kernel, by decide +kernel⟩, List.mem_of_getElem? (i := 801) (by decide +kernel), List.mem_of_getElem? (i := 1092) (by decide +kernel), List.mem_of_getElem? (i := 1093) (by decide +kernel)⟩
theorem lw_p61 : lw_okq (⟨"SplitTowersModel", "degreeOfBranch", "(I)I"⟩, 15) := ⟨⟨by decide +kernel, by decide +kernel⟩, List.mem_of_getElem? (i := 801) (by decide +kernel), List.mem_of_getElem? (i := 1120) (by decide +kernel), List.mem_of_getElem? (i := 1121) (by decide +kernel)⟩
theorem lw_p62 : lw_okq (⟨"SplitTowersModel", "findsLeast", "()V"⟩, 15) := ⟨⟨by decide +kernel, by decide +kernel⟩, List.mem_of_getElem? (i := 801) (by decide +kernel), List.mem_of_getElem? (i := 1145) (by decide +kernel), List.mem_of_getElem? (i := 1146) (by decide +kernel)⟩
theorem lw_p63 : lw_okq (⟨"SplitTowersModel", "countsFactors", "()V"⟩, 15) := ⟨⟨by decide +kernel, by decide +kernel⟩, List.mem_of_getElem? (i := 801) (by decide +kernel), List.mem_of_getElem? (i := 1157) (by decide +kernel), List.mem_of_getElem? (i := 1158) (by decide +kernel)⟩
def lw_privs_4 : List (MethodName × Nat) := [(⟨"SplitTowersModel", "swaps", "(II)V"⟩, 15), (⟨"SplitTowersModel", "recordsBefore", "()V"⟩, 15), (⟨"SplitTowersModel", "nothings", "(I)I"⟩, 15), (⟨"SplitTowersModel", "takesDegree", "(II)V"⟩, 15), (⟨"SplitTowersModel", "raises", "(IIII)V"⟩, 15), (⟨"SplitTowersModel", "goes", "(I)V"⟩, 15), (⟨"SplitTowersModel", "placeOf", "(I)I"⟩, 15), (⟨"SplitTowersModel", "goesAlong", "(Z)Z"⟩, 15), (⟨"SplitTowersModel", "takesSimple", "(Z)Z"⟩, 15), (⟨"SplitTowersModel", "takesPower", "(Z)Z"⟩, 15), (⟨"SplitTowersModel", "joinsProduct", "(IZ)V"⟩, 15), (⟨"SplitTowersModel", "quotient", "(III)V"⟩, 15), (⟨"SplitTowersModel", "joinsSum", "(IZ)V"⟩, 15), (⟨"SplitTowersModel", "degreeOfBranch", "(I)I"⟩, 15), (⟨"SplitTowersModel", "findsLeast", "()V"⟩, 15), (⟨"SplitTowersModel", "countsFactors", "()V"⟩, 15)]
theorem lw_r4 : ∀ q ∈ lw_privs_4, lw_okq q := List.forall_mem_cons.mpr ⟨lw_p48, List.forall_mem_cons.mpr ⟨lw_p49, List.forall_mem_cons.mpr ⟨lw_p50, List.forall_mem_cons.mpr ⟨lw_p51, List.forall_mem_cons.mpr ⟨lw_p52, List.forall_mem_cons.mpr ⟨lw_p53, List.forall_mem_cons.mpr ⟨lw_p54, List.forall_mem_cons.mpr ⟨lw_p55, List.forall_mem_cons.mpr ⟨lw_p56, List.forall_mem_cons.mpr ⟨lw_p57, List.forall_mem_cons.mpr ⟨lw_p58, List.forall_mem_cons.mpr ⟨lw_p59, List.forall_mem_cons.mpr ⟨lw_p60, List.forall_mem_cons.mpr ⟨lw_p61, List.forall_mem_cons.mpr ⟨lw_p62, List.forall_mem_cons.mpr ⟨lw_p63, fun _ h => absurd h List.not_mem_nil⟩⟩⟩⟩⟩⟩⟩⟩⟩⟩⟩⟩⟩⟩⟩⟩
theorem lw_p64 : lw_okq (⟨"SplitTowersModel", "isOne", "(I)Z"⟩, 15) := ⟨⟨by decide +kernel, by decide +kernel⟩, List.mem_of_getElem? (i := 801) (by decide +kernel), List.mem_of_getElem? (i := 1164) (by decide +kernel), List.mem_of_getElem? (i := 1165) (by decide +kernel)⟩
theorem lw_p65 : lw_okq (⟨"SplitTowersModel", "allFactors", "()I"⟩, 15) := ⟨⟨by decide +kernel, by decide +kernel⟩, List.mem_of_getElem? (i := 801) (by decide +kernel), List.mem_of_getElem? (i := 1176) (by decide +kernel), List.mem_of_getElem? (i := 1177) (by decide +kernel)⟩
theorem lw_p66 : lw_okq (⟨"SplitTowersModel", "zeros", "()I"⟩, 15) := ⟨⟨by decide +kernel, by decide +kernel⟩, List.mem_of_getElem? (i := 801) (by decide +kernel), List.mem_of_getElem? (i := 1180) (by decide +kernel), List.mem_of_getElem? (i := 1181) (by decide +kernel)⟩
def lw_privs_5 : List (MethodName × Nat) := [(⟨"SplitTowersModel", "isOne", "(I)Z"⟩, 15), (⟨"SplitTowersModel", "allFactors", "()I"⟩, 15), (⟨"SplitTowersModel", "zeros", "()I"⟩, 15)]
theorem lw_r5 : ∀ q ∈ lw_privs_5, lw_okq q := List.forall_mem_cons.mpr ⟨lw_p64, List.forall_mem_cons.mpr ⟨lw_p65, List.forall_mem_cons.mpr ⟨lw_p66, fun _ h => absurd h List.not_mem_nil⟩⟩⟩
def lw_privs : List (MethodName × Nat) := lw_privs_1 ++ (lw_privs_2 ++ (lw_privs_3 ++ (lw_privs_4 ++ (lw_privs_5))))
def lw_tbl : List Cond := k2_sels lw_privs ++ tables_1
theorem lw_privs_ok : ∀ q ∈ lw_privs, lw_okq q := by
  show ∀ q ∈ lw_privs_1 ++ (lw_privs_2 ++ (lw_privs_3 ++ (lw_privs_4 ++ (lw_privs_5)))), lw_okq q
  exact List.forall_mem_append.mpr ⟨lw_r1, List.forall_mem_append.mpr ⟨lw_r2, List.forall_mem_append.mpr ⟨lw_r3, List.forall_mem_append.mpr ⟨lw_r4, lw_r5⟩⟩⟩⟩

-- names that TURN printed of this claim (claim/NAMES.whole.lean.txt): classes, fields, methods, decode rows
/-- the words that every method keeps -/
def WS : List Cond := lw_tbl.filter goodWord
theorem in_WS (i : Nat) {w : Cond} (h : lw_tbl[i]? = some w) (hg : goodWord w = true) : w ∈ WS := List.mem_filter.mpr ⟨List.mem_of_getElem? h, hg⟩
theorem in_WSs {ws : List Cond} (ps : List Nat) (hp : ws = ps.filterMap (fun i => lw_tbl[i]?)) (h : ws.all goodWord = true) : ∀ w ∈ ws, w ∈ WS := by
  intro w hw
  have h1 := List.all_eq_true.mp h w hw
  rw [hp] at hw
  obtain ⟨i, -, hi⟩ := List.mem_filterMap.mp hw
  exact in_WS i hi h1
theorem WS_tbl : ∀ w ∈ WS, w ∈ lw_tbl := fun w h => (List.mem_filter.mp h).1
theorem WS_good : ∀ w ∈ WS, goodWord w = true := fun w h => (List.mem_filter.mp h).2
def RX0 : String := "SplitTowers$Branching"
def TX0 : u_T := fun k => match k with
  | 0 => ("SplitTowers$Branching", "state", "LSplitTowers$State;", true)
  | 1 => ("SplitTowers$Branching", "field", "LSplitTowers$Field;", true)
  | 2 => ("SplitTowers$Branching", "common", "LSplitTowers$Poly;", true)
  | 3 => ("SplitTowers$Branching", "rest", "LSplitTowers$Poly;", true)
  | 4 => ("SplitTowers$Branching", "nothings", "LSplitTowers$Poly;", true)
  | _ => ("SplitTowers$Branching", "others", "LSplitTowers$Poly;", true)
def tyX0 : Nat → FieldType := fun k => match k with
  | 0 => .object "SplitTowers$State"
  | 1 => .object "SplitTowers$Field"
  | 2 => .object "SplitTowers$Poly"
  | 3 => .object "SplitTowers$Poly"
  | 4 => .object "SplitTowers$Poly"
  | _ => .object "SplitTowers$Poly"
theorem nmX0 : ∀ a, a < 6 → ∀ b, b < 6 → a ≠ b → (TX0 a).2.1 ≠ (TX0 b).2.1 := by decide +kernel
theorem tyX0_ok : ∀ k, k < 6 → parseFieldDescriptor (TX0 k).2.2.1 = some (tyX0 k) := by decide +kernel
abbrev cX0_init : ByteArray := prog_2_method_1_code
def yX0_init : MethodName := ⟨RX0, "<init>", "(LSplitTowers$State;LSplitTowers$Field;)V"⟩
abbrev cX0_kindIn : ByteArray := prog_2_method_2_code
def yX0_kindIn : MethodName := ⟨RX0, "kindIn", "(LSplitTowers$Poly;LSplitTowers$Poly;)I"⟩
abbrev cX0_countOfKind : ByteArray := prog_2_method_3_code
def yX0_countOfKind : MethodName := ⟨RX0, "countOfKind", "(LSplitTowers$Poly;I)I"⟩
abbrev cX0_countDifferent : ByteArray := prog_2_method_4_code
def yX0_countDifferent : MethodName := ⟨RX0, "countDifferent", "(LSplitTowers$Poly;LSplitTowers$Poly;)I"⟩
abbrev cX0_partBy : ByteArray := prog_2_method_5_code
def yX0_partBy : MethodName := ⟨RX0, "partBy", "(LSplitTowers$Poly;)V"⟩
abbrev cX0_joinTwo : ByteArray := prog_2_method_6_code
def yX0_joinTwo : MethodName := ⟨RX0, "joinTwo", "(II)I"⟩
abbrev cX0_joinByKind : ByteArray := prog_2_method_7_code
def yX0_joinByKind : MethodName := ⟨RX0, "joinByKind", "(LSplitTowers$Poly;)V"⟩
abbrev cX0_findBranch : ByteArray := prog_2_method_8_code
def yX0_findBranch : MethodName := ⟨RX0, "findBranch", "(LSplitTowers$Poly;)I"⟩
def RX1 : String := "SplitTowers$Degrees"
def TX1 : u_T := fun k => match k with
  | 0 => ("SplitTowers$Degrees", "state", "LSplitTowers$State;", true)
  | 1 => ("SplitTowers$Degrees", "field", "LSplitTowers$Field;", true)
  | 2 => ("SplitTowers$Degrees", "ring", "LSplitTowers$Ring;", true)
  | 3 => ("SplitTowers$Degrees", "products", "[LSplitTowers$Poly;", true)
  | 4 => ("SplitTowers$Degrees", "rest", "LSplitTowers$Poly;", true)
  | 5 => ("SplitTowers$Degrees", "raised", "LSplitTowers$Poly;", true)
  | 6 => ("SplitTowers$Degrees", "difference", "LSplitTowers$Poly;", true)
  | _ => ("SplitTowers$Degrees", "variable", "LSplitTowers$Poly;", true)
def tyX1 : Nat → FieldType := fun k => match k with
  | 0 => .object "SplitTowers$State"
  | 1 => .object "SplitTowers$Field"
  | 2 => .object "SplitTowers$Ring"
  | 3 => .array (.object "SplitTowers$Poly")
  | 4 => .object "SplitTowers$Poly"
  | 5 => .object "SplitTowers$Poly"
  | 6 => .object "SplitTowers$Poly"
  | _ => .object "SplitTowers$Poly"
theorem nmX1 : ∀ a, a < 8 → ∀ b, b < 8 → a ≠ b → (TX1 a).2.1 ≠ (TX1 b).2.1 := by decide +kernel
theorem tyX1_ok : ∀ k, k < 8 → parseFieldDescriptor (TX1 k).2.2.1 = some (tyX1 k) := by decide +kernel
abbrev cX1_init : ByteArray := prog_3_method_1_code
def yX1_init : MethodName := ⟨RX1, "<init>", "(LSplitTowers$State;LSplitTowers$Field;LSplitTowers$Ring;)V"⟩
abbrev cX1_find : ByteArray := prog_3_method_2_code
def yX1_find : MethodName := ⟨RX1, "find", "()V"⟩
abbrev cX1_factorsOf : ByteArray := prog_3_method_3_code
def yX1_factorsOf : MethodName := ⟨RX1, "factorsOf", "(I)I"⟩
abbrev cX1_allFactors : ByteArray := prog_3_method_4_code
def yX1_allFactors : MethodName := ⟨RX1, "allFactors", "()I"⟩
abbrev cX1_commonExponent : ByteArray := prog_3_method_5_code
def yX1_commonExponent : MethodName := ⟨RX1, "commonExponent", "()I"⟩
abbrev cX1_leastMultiple : ByteArray := prog_3_method_6_code
def yX1_leastMultiple : MethodName := ⟨RX1, "leastMultiple", "(II)I"⟩
def RX2 : String := "SplitTowers$Field"
def TX2 : u_T := fun k => match k with
  | 0 => ("SplitTowers$Field", "state", "LSplitTowers$State;", true)
  | 1 => ("SplitTowers$Field", "product", "LSplitTowers$Poly;", true)
  | 2 => ("SplitTowers$Field", "quotient", "LSplitTowers$Poly;", true)
  | 3 => ("SplitTowers$Field", "dividend", "LSplitTowers$Poly;", true)
  | 4 => ("SplitTowers$Field", "left", "LSplitTowers$Poly;", true)
  | 5 => ("SplitTowers$Field", "right", "LSplitTowers$Poly;", true)
  | 6 => ("SplitTowers$Field", "leftFactor", "LSplitTowers$Poly;", true)
  | _ => ("SplitTowers$Field", "rightFactor", "LSplitTowers$Poly;", true)
def tyX2 : Nat → FieldType := fun k => match k with
  | 0 => .object "SplitTowers$State"
  | 1 => .object "SplitTowers$Poly"
  | 2 => .object "SplitTowers$Poly"
  | 3 => .object "SplitTowers$Poly"
  | 4 => .object "SplitTowers$Poly"
  | 5 => .object "SplitTowers$Poly"
  | 6 => .object "SplitTowers$Poly"
  | _ => .object "SplitTowers$Poly"
theorem nmX2 : ∀ a, a < 8 → ∀ b, b < 8 → a ≠ b → (TX2 a).2.1 ≠ (TX2 b).2.1 := by decide +kernel
theorem tyX2_ok : ∀ k, k < 8 → parseFieldDescriptor (TX2 k).2.2.1 = some (tyX2 k) := by decide +kernel
abbrev cX2_init : ByteArray := prog_4_method_1_code
def yX2_init : MethodName := ⟨RX2, "<init>", "(LSplitTowers$State;)V"⟩
abbrev cX2_inverseOf : ByteArray := prog_4_method_2_code
def yX2_inverseOf : MethodName := ⟨RX2, "inverseOf", "(I)I"⟩
abbrev cX2_scale : ByteArray := prog_4_method_3_code
def yX2_scale : MethodName := ⟨RX2, "scale", "(LSplitTowers$Poly;I)V"⟩
abbrev cX2_multiply : ByteArray := prog_4_method_4_code
def yX2_multiply : MethodName := ⟨RX2, "multiply", "(LSplitTowers$Poly;LSplitTowers$Poly;LSplitTowers$Poly;)V"⟩
abbrev cX2_divide : ByteArray := prog_4_method_5_code
def yX2_divide : MethodName := ⟨RX2, "divide", "(LSplitTowers$Poly;LSplitTowers$Poly;LSplitTowers$Poly;)V"⟩
abbrev cX2_reduce : ByteArray := prog_4_method_6_code
def yX2_reduce : MethodName := ⟨RX2, "reduce", "(LSplitTowers$Poly;LSplitTowers$Poly;)V"⟩
abbrev cX2_divideWhole : ByteArray := prog_4_method_7_code
def yX2_divideWhole : MethodName := ⟨RX2, "divideWhole", "(LSplitTowers$Poly;LSplitTowers$Poly;LSplitTowers$Poly;)V"⟩
abbrev cX2_commonFactor : ByteArray := prog_4_method_8_code
def yX2_commonFactor : MethodName := ⟨RX2, "commonFactor", "(LSplitTowers$Poly;LSplitTowers$Poly;LSplitTowers$Poly;)V"⟩
abbrev cX2_invert : ByteArray := prog_4_method_9_code
def yX2_invert : MethodName := ⟨RX2, "invert", "(LSplitTowers$Poly;LSplitTowers$Poly;LSplitTowers$Poly;)V"⟩
abbrev cX2_hasSquare : ByteArray := prog_4_method_10_code
def yX2_hasSquare : MethodName := ⟨RX2, "hasSquare", "(LSplitTowers$Poly;)Z"⟩
def RX3 : String := "SplitTowers$History"
def TX3 : u_T := fun k => match k with
  | 0 => ("SplitTowers$History", "states", "[LSplitTowers$State;", true)
  | 1 => ("SplitTowers$History", "next", "I", false)
  | _ => ("SplitTowers$History", "length", "I", false)
def tyX3 : Nat → FieldType := fun k => match k with
  | 0 => .array (.object "SplitTowers$State")
  | 1 => .int
  | _ => .int
theorem nmX3 : ∀ a, a < 3 → ∀ b, b < 3 → a ≠ b → (TX3 a).2.1 ≠ (TX3 b).2.1 := by decide +kernel
theorem tyX3_ok : ∀ k, k < 3 → parseFieldDescriptor (TX3 k).2.2.1 = some (tyX3 k) := by decide +kernel
abbrev cX3_init : ByteArray := prog_5_method_1_code
def yX3_init : MethodName := ⟨RX3, "<init>", "()V"⟩
abbrev cX3_record : ByteArray := prog_5_method_2_code
def yX3_record : MethodName := ⟨RX3, "record", "(LSplitTowers$State;)V"⟩
abbrev cX3_takeBack : ByteArray := prog_5_method_3_code
def yX3_takeBack : MethodName := ⟨RX3, "takeBack", "(LSplitTowers$State;)V"⟩
def RX4 : String := "SplitTowers$Poly"
def TX4 : u_T := fun k => match k with
  | 0 => ("SplitTowers$Poly", "coefficients", "[I", true)
  | _ => ("SplitTowers$Poly", "degree", "I", false)
def tyX4 : Nat → FieldType := fun k => match k with
  | 0 => .array .int
  | _ => .int
theorem nmX4 : ∀ a, a < 2 → ∀ b, b < 2 → a ≠ b → (TX4 a).2.1 ≠ (TX4 b).2.1 := by decide +kernel
theorem tyX4_ok : ∀ k, k < 2 → parseFieldDescriptor (TX4 k).2.2.1 = some (tyX4 k) := by decide +kernel
abbrev cX4_init : ByteArray := prog_6_method_1_code
def yX4_init : MethodName := ⟨RX4, "<init>", "()V"⟩
abbrev cX4_at : ByteArray := prog_6_method_2_code
def yX4_at : MethodName := ⟨RX4, "at", "(I)I"⟩
abbrev cX4_set : ByteArray := prog_6_method_3_code
def yX4_set : MethodName := ⟨RX4, "set", "(II)V"⟩
abbrev cX4_clear : ByteArray := prog_6_method_4_code
def yX4_clear : MethodName := ⟨RX4, "clear", "()V"⟩
abbrev cX4_becomeConstant : ByteArray := prog_6_method_5_code
def yX4_becomeConstant : MethodName := ⟨RX4, "becomeConstant", "(I)V"⟩
abbrev cX4_becomeVariable : ByteArray := prog_6_method_6_code
def yX4_becomeVariable : MethodName := ⟨RX4, "becomeVariable", "()V"⟩
abbrev cX4_copy : ByteArray := prog_6_method_7_code
def yX4_copy : MethodName := ⟨RX4, "copy", "(LSplitTowers$Poly;)V"⟩
abbrev cX4_addMultiple : ByteArray := prog_6_method_8_code
def yX4_addMultiple : MethodName := ⟨RX4, "addMultiple", "(ILSplitTowers$Poly;II)V"⟩
abbrev cX4_isOne : ByteArray := prog_6_method_9_code
def yX4_isOne : MethodName := ⟨RX4, "isOne", "()Z"⟩
abbrev cX4_sameAs : ByteArray := prog_6_method_10_code
def yX4_sameAs : MethodName := ⟨RX4, "sameAs", "(LSplitTowers$Poly;)Z"⟩
abbrev cX4_comesBefore : ByteArray := prog_6_method_11_code
def yX4_comesBefore : MethodName := ⟨RX4, "comesBefore", "(LSplitTowers$Poly;)Z"⟩
abbrev cX4_lowerDegree : ByteArray := prog_6_method_12_code
def yX4_lowerDegree : MethodName := ⟨RX4, "lowerDegree", "()V"⟩
def RX5 : String := "SplitTowers$Reckoner"
def TX5 : u_T := fun k => match k with
  | 0 => ("SplitTowers$Reckoner", "state", "LSplitTowers$State;", true)
  | 1 => ("SplitTowers$Reckoner", "text", "LSplitTowers$Text;", true)
  | 2 => ("SplitTowers$Reckoner", "ring", "LSplitTowers$Ring;", true)
  | 3 => ("SplitTowers$Reckoner", "branching", "LSplitTowers$Branching;", true)
  | 4 => ("SplitTowers$Reckoner", "sums", "[LSplitTowers$Poly;", true)
  | 5 => ("SplitTowers$Reckoner", "products", "[LSplitTowers$Poly;", true)
  | 6 => ("SplitTowers$Reckoner", "minus", "[Z", true)
  | 7 => ("SplitTowers$Reckoner", "over", "[Z", true)
  | 8 => ("SplitTowers$Reckoner", "factor", "LSplitTowers$Poly;", true)
  | _ => ("SplitTowers$Reckoner", "level", "I", false)
def tyX5 : Nat → FieldType := fun k => match k with
  | 0 => .object "SplitTowers$State"
  | 1 => .object "SplitTowers$Text"
  | 2 => .object "SplitTowers$Ring"
  | 3 => .object "SplitTowers$Branching"
  | 4 => .array (.object "SplitTowers$Poly")
  | 5 => .array (.object "SplitTowers$Poly")
  | 6 => .array .boolean
  | 7 => .array .boolean
  | 8 => .object "SplitTowers$Poly"
  | _ => .int
theorem nmX5 : ∀ a, a < 10 → ∀ b, b < 10 → a ≠ b → (TX5 a).2.1 ≠ (TX5 b).2.1 := by decide +kernel
theorem tyX5_ok : ∀ k, k < 10 → parseFieldDescriptor (TX5 k).2.2.1 = some (tyX5 k) := by decide +kernel
abbrev cX5_init : ByteArray := prog_7_method_1_code
def yX5_init : MethodName := ⟨RX5, "<init>", "(LSplitTowers$State;LSplitTowers$Text;LSplitTowers$Ring;LSplitTowers$Branching;)V"⟩
abbrev cX5_reckon : ByteArray := prog_7_method_2_code
def yX5_reckon : MethodName := ⟨RX5, "reckon", "(LSplitTowers$Poly;)V"⟩
abbrev cX5_startSum : ByteArray := prog_7_method_3_code
def yX5_startSum : MethodName := ⟨RX5, "startSum", "()V"⟩
abbrev cX5_startProduct : ByteArray := prog_7_method_4_code
def yX5_startProduct : MethodName := ⟨RX5, "startProduct", "()V"⟩
abbrev cX5_endFactor : ByteArray := prog_7_method_5_code
def yX5_endFactor : MethodName := ⟨RX5, "endFactor", "()V"⟩
abbrev cX5_endProduct : ByteArray := prog_7_method_6_code
def yX5_endProduct : MethodName := ⟨RX5, "endProduct", "()V"⟩
abbrev cX5_takeSimpleOrExponent : ByteArray := prog_7_method_7_code
def yX5_takeSimpleOrExponent : MethodName := ⟨RX5, "takeSimpleOrExponent", "(IZ)V"⟩
def RX6 : String := "SplitTowers$Ring"
def TX6 : u_T := fun k => match k with
  | 0 => ("SplitTowers$Ring", "state", "LSplitTowers$State;", true)
  | 1 => ("SplitTowers$Ring", "field", "LSplitTowers$Field;", true)
  | 2 => ("SplitTowers$Ring", "quotient", "LSplitTowers$Poly;", true)
  | 3 => ("SplitTowers$Ring", "square", "LSplitTowers$Poly;", true)
  | 4 => ("SplitTowers$Ring", "common", "LSplitTowers$Poly;", true)
  | 5 => ("SplitTowers$Ring", "cofactor", "LSplitTowers$Poly;", true)
  | 6 => ("SplitTowers$Ring", "inverse", "LSplitTowers$Poly;", true)
  | 7 => ("SplitTowers$Ring", "work", "LSplitTowers$Poly;", true)
  | 8 => ("SplitTowers$Ring", "vector", "LSplitTowers$Poly;", true)
  | 9 => ("SplitTowers$Ring", "relation", "LSplitTowers$Poly;", true)
  | 10 => ("SplitTowers$Ring", "rows", "[LSplitTowers$Poly;", true)
  | _ => ("SplitTowers$Ring", "relations", "[LSplitTowers$Poly;", true)
def tyX6 : Nat → FieldType := fun k => match k with
  | 0 => .object "SplitTowers$State"
  | 1 => .object "SplitTowers$Field"
  | 2 => .object "SplitTowers$Poly"
  | 3 => .object "SplitTowers$Poly"
  | 4 => .object "SplitTowers$Poly"
  | 5 => .object "SplitTowers$Poly"
  | 6 => .object "SplitTowers$Poly"
  | 7 => .object "SplitTowers$Poly"
  | 8 => .object "SplitTowers$Poly"
  | 9 => .object "SplitTowers$Poly"
  | 10 => .array (.object "SplitTowers$Poly")
  | _ => .array (.object "SplitTowers$Poly")
theorem nmX6 : ∀ a, a < 12 → ∀ b, b < 12 → a ≠ b → (TX6 a).2.1 ≠ (TX6 b).2.1 := by decide +kernel
theorem tyX6_ok : ∀ k, k < 12 → parseFieldDescriptor (TX6 k).2.2.1 = some (tyX6 k) := by decide +kernel
abbrev cX6_init : ByteArray := prog_8_method_1_code
def yX6_init : MethodName := ⟨RX6, "<init>", "(LSplitTowers$State;LSplitTowers$Field;)V"⟩
abbrev cX6_becomeVariable : ByteArray := prog_8_method_2_code
def yX6_becomeVariable : MethodName := ⟨RX6, "becomeVariable", "(LSplitTowers$Poly;)V"⟩
abbrev cX6_add : ByteArray := prog_8_method_3_code
def yX6_add : MethodName := ⟨RX6, "add", "(LSplitTowers$Poly;LSplitTowers$Poly;Z)V"⟩
abbrev cX6_multiply : ByteArray := prog_8_method_4_code
def yX6_multiply : MethodName := ⟨RX6, "multiply", "(LSplitTowers$Poly;LSplitTowers$Poly;LSplitTowers$Poly;)V"⟩
abbrev cX6_raise : ByteArray := prog_8_method_5_code
def yX6_raise : MethodName := ⟨RX6, "raise", "(LSplitTowers$Poly;LSplitTowers$Poly;I)V"⟩
abbrev cX6_divide : ByteArray := prog_8_method_6_code
def yX6_divide : MethodName := ⟨RX6, "divide", "(LSplitTowers$Poly;LSplitTowers$Poly;LSplitTowers$Poly;)V"⟩
abbrev cX6_unitOf : ByteArray := prog_8_method_7_code
def yX6_unitOf : MethodName := ⟨RX6, "unitOf", "(LSplitTowers$Poly;LSplitTowers$Poly;)V"⟩
abbrev cX6_putTogether : ByteArray := prog_8_method_8_code
def yX6_putTogether : MethodName := ⟨RX6, "putTogether", "(LSplitTowers$Poly;LSplitTowers$Poly;LSplitTowers$Poly;LSplitTowers$Poly;)V"⟩
abbrev cX6_traceOf : ByteArray := prog_8_method_9_code
def yX6_traceOf : MethodName := ⟨RX6, "traceOf", "(LSplitTowers$Poly;)I"⟩
abbrev cX6_findLeastPolynomial : ByteArray := prog_8_method_10_code
def yX6_findLeastPolynomial : MethodName := ⟨RX6, "findLeastPolynomial", "(LSplitTowers$Poly;LSplitTowers$Poly;)V"⟩
abbrev cX6_reduceByRows : ByteArray := prog_8_method_11_code
def yX6_reduceByRows : MethodName := ⟨RX6, "reduceByRows", "()V"⟩
abbrev cX6_leastExponent : ByteArray := prog_8_method_12_code
def yX6_leastExponent : MethodName := ⟨RX6, "leastExponent", "(LSplitTowers$Poly;I)I"⟩
def RX7 : String := "SplitTowers$State"
def TX7 : u_T := fun k => match k with
  | 0 => ("SplitTowers$State", "prime", "I", false)
  | 1 => ("SplitTowers$State", "modulus", "LSplitTowers$Poly;", true)
  | 2 => ("SplitTowers$State", "registers", "[LSplitTowers$Poly;", true)
  | 3 => ("SplitTowers$State", "branches", "[LSplitTowers$Poly;", true)
  | _ => ("SplitTowers$State", "branchCount", "I", false)
def tyX7 : Nat → FieldType := fun k => match k with
  | 0 => .int
  | 1 => .object "SplitTowers$Poly"
  | 2 => .array (.object "SplitTowers$Poly")
  | 3 => .array (.object "SplitTowers$Poly")
  | _ => .int
theorem nmX7 : ∀ a, a < 5 → ∀ b, b < 5 → a ≠ b → (TX7 a).2.1 ≠ (TX7 b).2.1 := by decide +kernel
theorem tyX7_ok : ∀ k, k < 5 → parseFieldDescriptor (TX7 k).2.2.1 = some (tyX7 k) := by decide +kernel
abbrev cX7_init : ByteArray := prog_9_method_1_code
def yX7_init : MethodName := ⟨RX7, "<init>", "()V"⟩
abbrev cX7_start : ByteArray := prog_9_method_2_code
def yX7_start : MethodName := ⟨RX7, "start", "(I)V"⟩
abbrev cX7_takeModulus : ByteArray := prog_9_method_3_code
def yX7_takeModulus : MethodName := ⟨RX7, "takeModulus", "(LSplitTowers$Poly;)V"⟩
abbrev cX7_copy : ByteArray := prog_9_method_4_code
def yX7_copy : MethodName := ⟨RX7, "copy", "(LSplitTowers$State;)V"⟩
abbrev cX7_reduced : ByteArray := prog_9_method_5_code
def yX7_reduced : MethodName := ⟨RX7, "reduced", "(I)I"⟩
abbrev cX7_addBranch : ByteArray := prog_9_method_6_code
def yX7_addBranch : MethodName := ⟨RX7, "addBranch", "(LSplitTowers$Poly;)V"⟩
abbrev cX7_sortBranches : ByteArray := prog_9_method_7_code
def yX7_sortBranches : MethodName := ⟨RX7, "sortBranches", "()V"⟩
abbrev cX7_greatestBranchDegree : ByteArray := prog_9_method_8_code
def yX7_greatestBranchDegree : MethodName := ⟨RX7, "greatestBranchDegree", "()I"⟩
abbrev cX7_emptyRegisters : ByteArray := prog_9_method_9_code
def yX7_emptyRegisters : MethodName := ⟨RX7, "emptyRegisters", "()I"⟩
abbrev cX7_becomeOneBranch : ByteArray := prog_9_method_10_code
def yX7_becomeOneBranch : MethodName := ⟨RX7, "becomeOneBranch", "()V"⟩
def RX8 : String := "SplitTowers$Text"
def TX8 : u_T := fun k => match k with
  | 0 => ("SplitTowers$Text", "characters", "[I", true)
  | 1 => ("SplitTowers$Text", "length", "I", false)
  | 2 => ("SplitTowers$Text", "told", "[I", true)
  | _ => ("SplitTowers$Text", "toldCount", "I", false)
def tyX8 : Nat → FieldType := fun k => match k with
  | 0 => .array .int
  | 1 => .int
  | 2 => .array .int
  | _ => .int
theorem nmX8 : ∀ a, a < 4 → ∀ b, b < 4 → a ≠ b → (TX8 a).2.1 ≠ (TX8 b).2.1 := by decide +kernel
theorem tyX8_ok : ∀ k, k < 4 → parseFieldDescriptor (TX8 k).2.2.1 = some (tyX8 k) := by decide +kernel
abbrev cX8_init : ByteArray := prog_10_method_1_code
def yX8_init : MethodName := ⟨RX8, "<init>", "()V"⟩
abbrev cX8_add : ByteArray := prog_10_method_2_code
def yX8_add : MethodName := ⟨RX8, "add", "(C)Z"⟩
abbrev cX8_at : ByteArray := prog_10_method_3_code
def yX8_at : MethodName := ⟨RX8, "at", "(I)I"⟩
abbrev cX8_isDigit : ByteArray := prog_10_method_4_code
def yX8_isDigit : MethodName := ⟨RX8, "isDigit", "(I)Z"⟩
abbrev cX8_isRegisterLetter : ByteArray := prog_10_method_5_code
def yX8_isRegisterLetter : MethodName := ⟨RX8, "isRegisterLetter", "(I)Z"⟩
abbrev cX8_polynomialFault : ByteArray := prog_10_method_6_code
def yX8_polynomialFault : MethodName := ⟨RX8, "polynomialFault", "()I"⟩
abbrev cX8_copyPolynomial : ByteArray := prog_10_method_7_code
def yX8_copyPolynomial : MethodName := ⟨RX8, "copyPolynomial", "(LSplitTowers$Poly;)V"⟩
abbrev cX8_assignmentFault : ByteArray := prog_10_method_8_code
def yX8_assignmentFault : MethodName := ⟨RX8, "assignmentFault", "()I"⟩
abbrev cX8_expectedBehind : ByteArray := prog_10_method_9_code
def yX8_expectedBehind : MethodName := ⟨RX8, "expectedBehind", "(II)I"⟩
abbrev cX8_tell : ByteArray := prog_10_method_10_code
def yX8_tell : MethodName := ⟨RX8, "tell", "(I)V"⟩
def RX9 : String := "SplitTowers"
def TX9 : u_T := fun k => match k with
  | 0 => ("SplitTowers", "now", "LSplitTowers$State;", true)
  | 1 => ("SplitTowers", "snapshot", "LSplitTowers$State;", true)
  | 2 => ("SplitTowers", "kept", "Z", false)
  | 3 => ("SplitTowers", "history", "LSplitTowers$History;", true)
  | 4 => ("SplitTowers", "text", "LSplitTowers$Text;", true)
  | 5 => ("SplitTowers", "field", "LSplitTowers$Field;", true)
  | 6 => ("SplitTowers", "ring", "LSplitTowers$Ring;", true)
  | 7 => ("SplitTowers", "degrees", "LSplitTowers$Degrees;", true)
  | 8 => ("SplitTowers", "branching", "LSplitTowers$Branching;", true)
  | 9 => ("SplitTowers", "reckoner", "LSplitTowers$Reckoner;", true)
  | _ => ("SplitTowers", "answer", "LSplitTowers$Poly;", true)
def tyX9 : Nat → FieldType := fun k => match k with
  | 0 => .object "SplitTowers$State"
  | 1 => .object "SplitTowers$State"
  | 2 => .boolean
  | 3 => .object "SplitTowers$History"
  | 4 => .object "SplitTowers$Text"
  | 5 => .object "SplitTowers$Field"
  | 6 => .object "SplitTowers$Ring"
  | 7 => .object "SplitTowers$Degrees"
  | 8 => .object "SplitTowers$Branching"
  | 9 => .object "SplitTowers$Reckoner"
  | _ => .object "SplitTowers$Poly"
theorem nmX9 : ∀ a, a < 11 → ∀ b, b < 11 → a ≠ b → (TX9 a).2.1 ≠ (TX9 b).2.1 := by decide +kernel
theorem tyX9_ok : ∀ k, k < 11 → parseFieldDescriptor (TX9 k).2.2.1 = some (tyX9 k) := by decide +kernel
abbrev cX9_init : ByteArray := prog_1_method_1_code
def yX9_init : MethodName := ⟨RX9, "<init>", "()V"⟩
abbrev cX9_setPrime : ByteArray := prog_1_method_2_code
def yX9_setPrime : MethodName := ⟨RX9, "setPrime", "(I)I"⟩
abbrev cX9_readModulus : ByteArray := prog_1_method_3_code
def yX9_readModulus : MethodName := ⟨RX9, "readModulus", "()I"⟩
abbrev cX9_setNumber : ByteArray := prog_1_method_4_code
def yX9_setNumber : MethodName := ⟨RX9, "setNumber", "(III)I"⟩
abbrev cX9_assign : ByteArray := prog_1_method_5_code
def yX9_assign : MethodName := ⟨RX9, "assign", "()I"⟩
abbrev cX9_put : ByteArray := prog_1_method_6_code
def yX9_put : MethodName := ⟨RX9, "put", "(III)I"⟩
abbrev cX9_part : ByteArray := prog_1_method_7_code
def yX9_part : MethodName := ⟨RX9, "part", "(I)I"⟩
abbrev cX9_partByDegrees : ByteArray := prog_1_method_8_code
def yX9_partByDegrees : MethodName := ⟨RX9, "partByDegrees", "()I"⟩
abbrev cX9_join : ByteArray := prog_1_method_9_code
def yX9_join : MethodName := ⟨RX9, "join", "(II)I"⟩
abbrev cX9_joinAlike : ByteArray := prog_1_method_10_code
def yX9_joinAlike : MethodName := ⟨RX9, "joinAlike", "(I)I"⟩
abbrev cX9_type : ByteArray := prog_1_method_11_code
def yX9_type : MethodName := ⟨RX9, "type", "(C)I"⟩
abbrev cX9_clearText : ByteArray := prog_1_method_12_code
def yX9_clearText : MethodName := ⟨RX9, "clearText", "()I"⟩
abbrev cX9_undo : ByteArray := prog_1_method_13_code
def yX9_undo : MethodName := ⟨RX9, "undo", "()I"⟩
abbrev cX9_keep : ByteArray := prog_1_method_14_code
def yX9_keep : MethodName := ⟨RX9, "keep", "()I"⟩
abbrev cX9_restore : ByteArray := prog_1_method_15_code
def yX9_restore : MethodName := ⟨RX9, "restore", "()I"⟩
abbrev cX9_modulus : ByteArray := prog_1_method_16_code
def yX9_modulus : MethodName := ⟨RX9, "modulus", "(I)I"⟩
abbrev cX9_number : ByteArray := prog_1_method_17_code
def yX9_number : MethodName := ⟨RX9, "number", "(II)I"⟩
abbrev cX9_branch : ByteArray := prog_1_method_18_code
def yX9_branch : MethodName := ⟨RX9, "branch", "(II)I"⟩
abbrev cX9_seen : ByteArray := prog_1_method_19_code
def yX9_seen : MethodName := ⟨RX9, "seen", "(III)I"⟩
abbrev cX9_kind : ByteArray := prog_1_method_20_code
def yX9_kind : MethodName := ⟨RX9, "kind", "(II)I"⟩
abbrev cX9_unit : ByteArray := prog_1_method_21_code
def yX9_unit : MethodName := ⟨RX9, "unit", "(II)I"⟩
abbrev cX9_power : ByteArray := prog_1_method_22_code
def yX9_power : MethodName := ⟨RX9, "power", "(III)I"⟩
abbrev cX9_leastPolynomial : ByteArray := prog_1_method_23_code
def yX9_leastPolynomial : MethodName := ⟨RX9, "leastPolynomial", "(II)I"⟩
abbrev cX9_trace : ByteArray := prog_1_method_24_code
def yX9_trace : MethodName := ⟨RX9, "trace", "(I)I"⟩
abbrev cX9_order : ByteArray := prog_1_method_25_code
def yX9_order : MethodName := ⟨RX9, "order", "(I)I"⟩
abbrev cX9_factors : ByteArray := prog_1_method_26_code
def yX9_factors : MethodName := ⟨RX9, "factors", "(I)I"⟩
abbrev cX9_count : ByteArray := prog_1_method_27_code
def yX9_count : MethodName := ⟨RX9, "count", "(I)I"⟩
abbrev cX9_isPrime : ByteArray := prog_1_method_28_code
def yX9_isPrime : MethodName := ⟨RX9, "isPrime", "(I)Z"⟩
abbrev cX9_isRegister : ByteArray := prog_1_method_29_code
def yX9_isRegister : MethodName := ⟨RX9, "isRegister", "(I)Z"⟩
abbrev cX9_isBranch : ByteArray := prog_1_method_30_code
def yX9_isBranch : MethodName := ⟨RX9, "isBranch", "(I)Z"⟩
abbrev cX9_isPlace : ByteArray := prog_1_method_31_code
def yX9_isPlace : MethodName := ⟨RX9, "isPlace", "(I)Z"⟩
abbrev cX9_isModulusTold : ByteArray := prog_1_method_32_code
def yX9_isModulusTold : MethodName := ⟨RX9, "isModulusTold", "()Z"⟩
abbrev cX9_coefficientTold : ByteArray := prog_1_method_33_code
def yX9_coefficientTold : MethodName := ⟨RX9, "coefficientTold", "(LSplitTowers$Poly;I)I"⟩
def RX10 : String := "SplitTowersModel"
def TX10 : u_T := fun k => match k with
  | 0 => ("SplitTowersModel", "now", "[I", true)
  | 1 => ("SplitTowersModel", "history", "[I", true)
  | 2 => ("SplitTowersModel", "kept", "I", false)
  | 3 => ("SplitTowersModel", "slot", "[I", true)
  | 4 => ("SplitTowersModel", "isFilled", "Z", false)
  | 5 => ("SplitTowersModel", "table", "[I", true)
  | 6 => ("SplitTowersModel", "made", "[I", true)
  | 7 => ("SplitTowersModel", "before", "[I", true)
  | 8 => ("SplitTowersModel", "typed", "I", false)
  | 9 => ("SplitTowersModel", "text", "[C", true)
  | 10 => ("SplitTowersModel", "at", "I", false)
  | 11 => ("SplitTowersModel", "read", "[I", true)
  | 12 => ("SplitTowersModel", "toSum", "[I", true)
  | 13 => ("SplitTowersModel", "toProduct", "[I", true)
  | _ => ("SplitTowersModel", "factors", "[I", true)
def tyX10 : Nat → FieldType := fun k => match k with
  | 0 => .array .int
  | 1 => .array .int
  | 2 => .int
  | 3 => .array .int
  | 4 => .boolean
  | 5 => .array .int
  | 6 => .array .int
  | 7 => .array .int
  | 8 => .int
  | 9 => .array .char
  | 10 => .int
  | 11 => .array .int
  | 12 => .array .int
  | 13 => .array .int
  | _ => .array .int
theorem nmX10 : ∀ a, a < 15 → ∀ b, b < 15 → a ≠ b → (TX10 a).2.1 ≠ (TX10 b).2.1 := by decide +kernel
theorem tyX10_ok : ∀ k, k < 15 → parseFieldDescriptor (TX10 k).2.2.1 = some (tyX10 k) := by decide +kernel
abbrev cX10_init : ByteArray := prog_12_method_1_code
def yX10_init : MethodName := ⟨RX10, "<init>", "()V"⟩
abbrev cX10_resets : ByteArray := prog_12_method_2_code
def yX10_resets : MethodName := ⟨RX10, "resets", "()V"⟩
abbrev cX10_in : ByteArray := prog_12_method_3_code
def yX10_in : MethodName := ⟨RX10, "in", "(III)Z"⟩
abbrev cX10_noRegister : ByteArray := prog_12_method_4_code
def yX10_noRegister : MethodName := ⟨RX10, "noRegister", "(I)Z"⟩
abbrev cX10_noBranch : ByteArray := prog_12_method_5_code
def yX10_noBranch : MethodName := ⟨RX10, "noBranch", "(I)Z"⟩
abbrev cX10_record : ByteArray := prog_12_method_6_code
def yX10_record : MethodName := ⟨RX10, "record", "()V"⟩
abbrev cX10_of : ByteArray := prog_12_method_7_code
def yX10_of : MethodName := ⟨RX10, "of", "(II)I"⟩
abbrev cX10_puts : ByteArray := prog_12_method_8_code
def yX10_puts : MethodName := ⟨RX10, "puts", "(III)V"⟩
abbrev cX10_degree : ByteArray := prog_12_method_9_code
def yX10_degree : MethodName := ⟨RX10, "degree", "(I)I"⟩
abbrev cX10_clears : ByteArray := prog_12_method_10_code
def yX10_clears : MethodName := ⟨RX10, "clears", "(I)V"⟩
abbrev cX10_copies : ByteArray := prog_12_method_11_code
def yX10_copies : MethodName := ⟨RX10, "copies", "(II)V"⟩
abbrev cX10_constant : ByteArray := prog_12_method_12_code
def yX10_constant : MethodName := ⟨RX10, "constant", "(II)V"⟩
abbrev cX10_loads : ByteArray := prog_12_method_13_code
def yX10_loads : MethodName := ⟨RX10, "loads", "(III)V"⟩
abbrev cX10_loadsModulus : ByteArray := prog_12_method_14_code
def yX10_loadsModulus : MethodName := ⟨RX10, "loadsModulus", "()V"⟩
abbrev cX10_loadsBranch : ByteArray := prog_12_method_15_code
def yX10_loadsBranch : MethodName := ⟨RX10, "loadsBranch", "(II)V"⟩
abbrev cX10_loadsNumber : ByteArray := prog_12_method_16_code
def yX10_loadsNumber : MethodName := ⟨RX10, "loadsNumber", "(II)V"⟩
abbrev cX10_inverse : ByteArray := prog_12_method_17_code
def yX10_inverse : MethodName := ⟨RX10, "inverse", "(I)I"⟩
abbrev cX10_adds : ByteArray := prog_12_method_18_code
def yX10_adds : MethodName := ⟨RX10, "adds", "(III)V"⟩
abbrev cX10_multiplies : ByteArray := prog_12_method_19_code
def yX10_multiplies : MethodName := ⟨RX10, "multiplies", "(III)V"⟩
abbrev cX10_divides : ByteArray := prog_12_method_20_code
def yX10_divides : MethodName := ⟨RX10, "divides", "(III)V"⟩
abbrev cX10_monic : ByteArray := prog_12_method_21_code
def yX10_monic : MethodName := ⟨RX10, "monic", "(I)V"⟩
abbrev cX10_common : ByteArray := prog_12_method_22_code
def yX10_common : MethodName := ⟨RX10, "common", "(III)V"⟩
abbrev cX10_inverts : ByteArray := prog_12_method_23_code
def yX10_inverts : MethodName := ⟨RX10, "inverts", "(III)V"⟩
abbrev cX10_raises : ByteArray := prog_12_method_24_code
def yX10_raises : MethodName := ⟨RX10, "raises", "(IIII)V"⟩
abbrev cX10_isBefore : ByteArray := prog_12_method_25_code
def yX10_isBefore : MethodName := ⟨RX10, "isBefore", "(II)Z"⟩
abbrev cX10_swaps : ByteArray := prog_12_method_26_code
def yX10_swaps : MethodName := ⟨RX10, "swaps", "(II)V"⟩
abbrev cX10_sorts : ByteArray := prog_12_method_27_code
def yX10_sorts : MethodName := ⟨RX10, "sorts", "()V"⟩
abbrev cX10_lays : ByteArray := prog_12_method_28_code
def yX10_lays : MethodName := ⟨RX10, "lays", "(II)V"⟩
abbrev cX10_comes : ByteArray := prog_12_method_29_code
def yX10_comes : MethodName := ⟨RX10, "comes", "(I)V"⟩
abbrev cX10_goes : ByteArray := prog_12_method_30_code
def yX10_goes : MethodName := ⟨RX10, "goes", "(I)V"⟩
abbrev cX10_parts : ByteArray := prog_12_method_31_code
def yX10_parts : MethodName := ⟨RX10, "parts", "(I)Z"⟩
abbrev cX10_kindIn : ByteArray := prog_12_method_32_code
def yX10_kindIn : MethodName := ⟨RX10, "kindIn", "(I)I"⟩
abbrev cX10_unitOf : ByteArray := prog_12_method_33_code
def yX10_unitOf : MethodName := ⟨RX10, "unitOf", "(I)V"⟩
abbrev cX10_quotient : ByteArray := prog_12_method_34_code
def yX10_quotient : MethodName := ⟨RX10, "quotient", "(III)V"⟩
abbrev cX10_setPrime : ByteArray := prog_12_method_35_code
def yX10_setPrime : MethodName := ⟨RX10, "setPrime", "(I)I"⟩
abbrev cX10_derives : ByteArray := prog_12_method_36_code
def yX10_derives : MethodName := ⟨RX10, "derives", "(II)V"⟩
abbrev cX10_readModulus : ByteArray := prog_12_method_37_code
def yX10_readModulus : MethodName := ⟨RX10, "readModulus", "()I"⟩
abbrev cX10_stores : ByteArray := prog_12_method_38_code
def yX10_stores : MethodName := ⟨RX10, "stores", "(II)V"⟩
abbrev cX10_degreeOfModulus : ByteArray := prog_12_method_39_code
def yX10_degreeOfModulus : MethodName := ⟨RX10, "degreeOfModulus", "()I"⟩
abbrev cX10_noPlace : ByteArray := prog_12_method_40_code
def yX10_noPlace : MethodName := ⟨RX10, "noPlace", "(I)Z"⟩
abbrev cX10_setNumber : ByteArray := prog_12_method_41_code
def yX10_setNumber : MethodName := ⟨RX10, "setNumber", "(III)I"⟩
abbrev cX10_put : ByteArray := prog_12_method_42_code
def yX10_put : MethodName := ⟨RX10, "put", "(III)I"⟩
abbrev cX10_nothings : ByteArray := prog_12_method_43_code
def yX10_nothings : MethodName := ⟨RX10, "nothings", "(I)I"⟩
abbrev cX10_remembers : ByteArray := prog_12_method_44_code
def yX10_remembers : MethodName := ⟨RX10, "remembers", "()V"⟩
abbrev cX10_recordsBefore : ByteArray := prog_12_method_45_code
def yX10_recordsBefore : MethodName := ⟨RX10, "recordsBefore", "()V"⟩
abbrev cX10_part : ByteArray := prog_12_method_46_code
def yX10_part : MethodName := ⟨RX10, "part", "(I)I"⟩
abbrev cX10_takesDegree : ByteArray := prog_12_method_47_code
def yX10_takesDegree : MethodName := ⟨RX10, "takesDegree", "(II)V"⟩
abbrev cX10_partByDegrees : ByteArray := prog_12_method_48_code
def yX10_partByDegrees : MethodName := ⟨RX10, "partByDegrees", "()I"⟩
abbrev cX10_placeOf : ByteArray := prog_12_method_49_code
def yX10_placeOf : MethodName := ⟨RX10, "placeOf", "(I)I"⟩
abbrev cX10_join : ByteArray := prog_12_method_50_code
def yX10_join : MethodName := ⟨RX10, "join", "(II)I"⟩
abbrev cX10_joinAlike : ByteArray := prog_12_method_51_code
def yX10_joinAlike : MethodName := ⟨RX10, "joinAlike", "(I)I"⟩
abbrev cX10_type : ByteArray := prog_12_method_52_code
def yX10_type : MethodName := ⟨RX10, "type", "(C)I"⟩
abbrev cX10_clearText : ByteArray := prog_12_method_53_code
def yX10_clearText : MethodName := ⟨RX10, "clearText", "()I"⟩
abbrev cX10_isBetween : ByteArray := prog_12_method_54_code
def yX10_isBetween : MethodName := ⟨RX10, "isBetween", "(II)Z"⟩
abbrev cX10_takes : ByteArray := prog_12_method_55_code
def yX10_takes : MethodName := ⟨RX10, "takes", "(I)Z"⟩
abbrev cX10_coefficients : ByteArray := prog_12_method_56_code
def yX10_coefficients : MethodName := ⟨RX10, "coefficients", "()I"⟩
abbrev cX10_joinsProduct : ByteArray := prog_12_method_57_code
def yX10_joinsProduct : MethodName := ⟨RX10, "joinsProduct", "(IZ)V"⟩
abbrev cX10_joinsSum : ByteArray := prog_12_method_58_code
def yX10_joinsSum : MethodName := ⟨RX10, "joinsSum", "(IZ)V"⟩
abbrev cX10_takesSimple : ByteArray := prog_12_method_59_code
def yX10_takesSimple : MethodName := ⟨RX10, "takesSimple", "(Z)Z"⟩
abbrev cX10_takesPower : ByteArray := prog_12_method_60_code
def yX10_takesPower : MethodName := ⟨RX10, "takesPower", "(Z)Z"⟩
abbrev cX10_goesAlong : ByteArray := prog_12_method_61_code
def yX10_goesAlong : MethodName := ⟨RX10, "goesAlong", "(Z)Z"⟩
abbrev cX10_assign : ByteArray := prog_12_method_62_code
def yX10_assign : MethodName := ⟨RX10, "assign", "()I"⟩
abbrev cX10_undo : ByteArray := prog_12_method_63_code
def yX10_undo : MethodName := ⟨RX10, "undo", "()I"⟩
abbrev cX10_keep : ByteArray := prog_12_method_64_code
def yX10_keep : MethodName := ⟨RX10, "keep", "()I"⟩
abbrev cX10_restore : ByteArray := prog_12_method_65_code
def yX10_restore : MethodName := ⟨RX10, "restore", "()I"⟩
abbrev cX10_modulus : ByteArray := prog_12_method_66_code
def yX10_modulus : MethodName := ⟨RX10, "modulus", "(I)I"⟩
abbrev cX10_number : ByteArray := prog_12_method_67_code
def yX10_number : MethodName := ⟨RX10, "number", "(II)I"⟩
abbrev cX10_degreeOfBranch : ByteArray := prog_12_method_68_code
def yX10_degreeOfBranch : MethodName := ⟨RX10, "degreeOfBranch", "(I)I"⟩
abbrev cX10_branch : ByteArray := prog_12_method_69_code
def yX10_branch : MethodName := ⟨RX10, "branch", "(II)I"⟩
abbrev cX10_seen : ByteArray := prog_12_method_70_code
def yX10_seen : MethodName := ⟨RX10, "seen", "(III)I"⟩
abbrev cX10_kind : ByteArray := prog_12_method_71_code
def yX10_kind : MethodName := ⟨RX10, "kind", "(II)I"⟩
abbrev cX10_unit : ByteArray := prog_12_method_72_code
def yX10_unit : MethodName := ⟨RX10, "unit", "(II)I"⟩
abbrev cX10_power : ByteArray := prog_12_method_73_code
def yX10_power : MethodName := ⟨RX10, "power", "(III)I"⟩
abbrev cX10_findsLeast : ByteArray := prog_12_method_74_code
def yX10_findsLeast : MethodName := ⟨RX10, "findsLeast", "()V"⟩
abbrev cX10_leastPolynomial : ByteArray := prog_12_method_75_code
def yX10_leastPolynomial : MethodName := ⟨RX10, "leastPolynomial", "(II)I"⟩
abbrev cX10_trace : ByteArray := prog_12_method_76_code
def yX10_trace : MethodName := ⟨RX10, "trace", "(I)I"⟩
abbrev cX10_isOne : ByteArray := prog_12_method_77_code
def yX10_isOne : MethodName := ⟨RX10, "isOne", "(I)Z"⟩
abbrev cX10_divisor : ByteArray := prog_12_method_78_code
def yX10_divisor : MethodName := ⟨RX10, "divisor", "(II)I"⟩
abbrev cX10_countsFactors : ByteArray := prog_12_method_79_code
def yX10_countsFactors : MethodName := ⟨RX10, "countsFactors", "()V"⟩
abbrev cX10_order : ByteArray := prog_12_method_80_code
def yX10_order : MethodName := ⟨RX10, "order", "(I)I"⟩
abbrev cX10_factors : ByteArray := prog_12_method_81_code
def yX10_factors : MethodName := ⟨RX10, "factors", "(I)I"⟩
abbrev cX10_allFactors : ByteArray := prog_12_method_82_code
def yX10_allFactors : MethodName := ⟨RX10, "allFactors", "()I"⟩
abbrev cX10_zeros : ByteArray := prog_12_method_83_code
def yX10_zeros : MethodName := ⟨RX10, "zeros", "()I"⟩
abbrev cX10_count : ByteArray := prog_12_method_84_code
def yX10_count : MethodName := ⟨RX10, "count", "(I)I"⟩
def RL : String := "SplitTowersLaw"
abbrev cL_law : ByteArray := code
def yL_law : MethodName := ⟨RL, "law", "([I)Z"⟩
theorem inX0 : ∀ w ∈ u_ws RX0 TX0 6, w ∈ WS := in_WSs [296, 298, 300, 302, 304, 306] (by decide +kernel) (by decide +kernel)
theorem inX1 : ∀ w ∈ u_ws RX1 TX1 8, w ∈ WS := in_WSs [326, 328, 330, 332, 334, 336, 338, 340] (by decide +kernel) (by decide +kernel)
theorem inX2 : ∀ w ∈ u_ws RX2 TX2 8, w ∈ WS := in_WSs [220, 222, 224, 226, 228, 230, 232, 234] (by decide +kernel) (by decide +kernel)
theorem inX3 : ∀ w ∈ u_ws RX3 TX3 3, w ∈ WS := in_WSs [396, 398, 400] (by decide +kernel) (by decide +kernel)
theorem inX4 : ∀ w ∈ u_ws RX4 TX4 2, w ∈ WS := in_WSs [108, 110] (by decide +kernel) (by decide +kernel)
theorem inX5 : ∀ w ∈ u_ws RX5 TX5 10, w ∈ WS := in_WSs [361, 363, 365, 367, 369, 371, 373, 375, 377, 379] (by decide +kernel) (by decide +kernel)
theorem inX6 : ∀ w ∈ u_ws RX6 TX6 12, w ∈ WS := in_WSs [257, 259, 261, 263, 265, 267, 269, 271, 273, 275, 277, 279] (by decide +kernel) (by decide +kernel)
theorem inX7 : ∀ w ∈ u_ws RX7 TX7 5, w ∈ WS := in_WSs [170, 172, 174, 176, 178] (by decide +kernel) (by decide +kernel)
theorem inX8 : ∀ w ∈ u_ws RX8 TX8 4, w ∈ WS := in_WSs [195, 197, 199, 201] (by decide +kernel) (by decide +kernel)
theorem inX9 : ∀ w ∈ u_ws RX9 TX9 11, w ∈ WS := in_WSs [416, 418, 420, 422, 424, 426, 428, 430, 432, 434, 436] (by decide +kernel) (by decide +kernel)
theorem inX10 : ∀ w ∈ u_ws RX10 TX10 15, w ∈ WS := in_WSs [892, 894, 896, 898, 900, 902, 904, 906, 908, 910, 912, 914, 916, 918, 920] (by decide +kernel) (by decide +kernel)
abbrev vwCl : List vw_C := [(RX0, TX0, 6), (RX1, TX1, 8), (RX2, TX2, 8), (RX3, TX3, 3), (RX4, TX4, 2), (RX5, TX5, 10), (RX6, TX6, 12), (RX7, TX7, 5), (RX8, TX8, 4), (RX9, TX9, 11), (RX10, TX10, 15)]
theorem w0 : Cond.selects "SplitTowers$Poly" yX4_lowerDegree yX4_lowerDegree ∈ WS := in_WS 0 (by decide +kernel) (by decide +kernel)
theorem w1 : Cond.selects "SplitTowers$State" yX7_becomeOneBranch yX7_becomeOneBranch ∈ WS := in_WS 1 (by decide +kernel) (by decide +kernel)
theorem w2 : Cond.selects "SplitTowers$Text" yX8_tell yX8_tell ∈ WS := in_WS 2 (by decide +kernel) (by decide +kernel)
theorem w3 : Cond.selects "SplitTowers" yX9_isModulusTold yX9_isModulusTold ∈ WS := in_WS 3 (by decide +kernel) (by decide +kernel)
theorem w4 : Cond.selects "SplitTowers" yX9_isPlace yX9_isPlace ∈ WS := in_WS 4 (by decide +kernel) (by decide +kernel)
theorem w5 : Cond.selects "SplitTowers$Reckoner" yX5_startSum yX5_startSum ∈ WS := in_WS 5 (by decide +kernel) (by decide +kernel)
theorem w6 : Cond.selects "SplitTowers$Reckoner" yX5_startProduct yX5_startProduct ∈ WS := in_WS 6 (by decide +kernel) (by decide +kernel)
theorem w7 : Cond.selects "SplitTowers$Reckoner" yX5_endFactor yX5_endFactor ∈ WS := in_WS 7 (by decide +kernel) (by decide +kernel)
theorem w8 : Cond.selects "SplitTowers$Reckoner" yX5_endProduct yX5_endProduct ∈ WS := in_WS 8 (by decide +kernel) (by decide +kernel)
theorem w9 : Cond.selects "SplitTowers$Reckoner" yX5_takeSimpleOrExponent yX5_takeSimpleOrExponent ∈ WS := in_WS 9 (by decide +kernel) (by decide +kernel)
theorem w10 : Cond.selects "SplitTowers" yX9_isBranch yX9_isBranch ∈ WS := in_WS 10 (by decide +kernel) (by decide +kernel)
theorem w11 : Cond.selects "SplitTowers$Branching" yX0_findBranch yX0_findBranch ∈ WS := in_WS 11 (by decide +kernel) (by decide +kernel)
theorem w12 : Cond.selects "SplitTowers$Ring" yX6_reduceByRows yX6_reduceByRows ∈ WS := in_WS 12 (by decide +kernel) (by decide +kernel)
theorem w13 : Cond.selects "SplitTowersModel" yX10_resets yX10_resets ∈ WS := in_WS 13 (by decide +kernel) (by decide +kernel)
theorem w14 : Cond.selects "SplitTowersModel" yX10_record yX10_record ∈ WS := in_WS 14 (by decide +kernel) (by decide +kernel)
theorem w15 : Cond.selects "SplitTowersModel" yX10_coefficients yX10_coefficients ∈ WS := in_WS 15 (by decide +kernel) (by decide +kernel)
theorem w16 : Cond.selects "SplitTowersModel" yX10_isBetween yX10_isBetween ∈ WS := in_WS 16 (by decide +kernel) (by decide +kernel)
theorem w17 : Cond.selects "SplitTowersModel" yX10_takes yX10_takes ∈ WS := in_WS 17 (by decide +kernel) (by decide +kernel)
theorem w18 : Cond.selects "SplitTowersModel" yX10_clears yX10_clears ∈ WS := in_WS 18 (by decide +kernel) (by decide +kernel)
theorem w19 : Cond.selects "SplitTowersModel" yX10_puts yX10_puts ∈ WS := in_WS 19 (by decide +kernel) (by decide +kernel)
theorem w20 : Cond.selects "SplitTowersModel" yX10_derives yX10_derives ∈ WS := in_WS 20 (by decide +kernel) (by decide +kernel)
theorem w21 : Cond.selects "SplitTowersModel" yX10_of yX10_of ∈ WS := in_WS 21 (by decide +kernel) (by decide +kernel)
theorem w22 : Cond.selects "SplitTowersModel" yX10_common yX10_common ∈ WS := in_WS 22 (by decide +kernel) (by decide +kernel)
theorem w23 : Cond.selects "SplitTowersModel" yX10_copies yX10_copies ∈ WS := in_WS 23 (by decide +kernel) (by decide +kernel)
theorem w24 : Cond.selects "SplitTowersModel" yX10_degree yX10_degree ∈ WS := in_WS 24 (by decide +kernel) (by decide +kernel)
theorem w25 : Cond.selects "SplitTowersModel" yX10_divides yX10_divides ∈ WS := in_WS 25 (by decide +kernel) (by decide +kernel)
theorem w26 : Cond.selects "SplitTowersModel" yX10_inverse yX10_inverse ∈ WS := in_WS 26 (by decide +kernel) (by decide +kernel)
theorem w27 : Cond.selects "SplitTowersModel" yX10_monic yX10_monic ∈ WS := in_WS 27 (by decide +kernel) (by decide +kernel)
theorem w28 : Cond.selects "SplitTowersModel" yX10_loadsNumber yX10_loadsNumber ∈ WS := in_WS 28 (by decide +kernel) (by decide +kernel)
theorem w29 : Cond.selects "SplitTowersModel" yX10_loads yX10_loads ∈ WS := in_WS 29 (by decide +kernel) (by decide +kernel)
theorem w30 : Cond.selects "SplitTowersModel" yX10_stores yX10_stores ∈ WS := in_WS 30 (by decide +kernel) (by decide +kernel)
theorem w31 : Cond.selects "SplitTowersModel" yX10_comes yX10_comes ∈ WS := in_WS 31 (by decide +kernel) (by decide +kernel)
theorem w32 : Cond.selects "SplitTowersModel" yX10_lays yX10_lays ∈ WS := in_WS 32 (by decide +kernel) (by decide +kernel)
theorem w33 : Cond.selects "SplitTowersModel" yX10_noPlace yX10_noPlace ∈ WS := in_WS 33 (by decide +kernel) (by decide +kernel)
theorem w34 : Cond.selects "SplitTowersModel" yX10_degreeOfModulus yX10_degreeOfModulus ∈ WS := in_WS 34 (by decide +kernel) (by decide +kernel)
theorem w35 : Cond.selects "SplitTowersModel" yX10_loadsModulus yX10_loadsModulus ∈ WS := in_WS 35 (by decide +kernel) (by decide +kernel)
theorem w36 : Cond.selects "SplitTowersModel" yX10_noBranch yX10_noBranch ∈ WS := in_WS 36 (by decide +kernel) (by decide +kernel)
theorem w37 : Cond.selects "SplitTowersModel" yX10_loadsBranch yX10_loadsBranch ∈ WS := in_WS 37 (by decide +kernel) (by decide +kernel)
theorem w38 : Cond.selects "SplitTowersModel" yX10_unitOf yX10_unitOf ∈ WS := in_WS 38 (by decide +kernel) (by decide +kernel)
theorem w39 : Cond.selects "SplitTowersModel" yX10_inverts yX10_inverts ∈ WS := in_WS 39 (by decide +kernel) (by decide +kernel)
theorem w40 : Cond.selects "SplitTowersModel" yX10_constant yX10_constant ∈ WS := in_WS 40 (by decide +kernel) (by decide +kernel)
theorem w41 : Cond.selects "SplitTowersModel" yX10_multiplies yX10_multiplies ∈ WS := in_WS 41 (by decide +kernel) (by decide +kernel)
theorem w42 : Cond.selects "SplitTowersModel" yX10_adds yX10_adds ∈ WS := in_WS 42 (by decide +kernel) (by decide +kernel)
theorem w43 : Cond.selects "SplitTowersModel" yX10_kindIn yX10_kindIn ∈ WS := in_WS 43 (by decide +kernel) (by decide +kernel)
theorem w44 : Cond.selects "SplitTowersModel" yX10_remembers yX10_remembers ∈ WS := in_WS 44 (by decide +kernel) (by decide +kernel)
theorem w45 : Cond.selects "SplitTowersModel" yX10_parts yX10_parts ∈ WS := in_WS 45 (by decide +kernel) (by decide +kernel)
theorem w46 : Cond.selects "SplitTowersModel" yX10_sorts yX10_sorts ∈ WS := in_WS 46 (by decide +kernel) (by decide +kernel)
theorem w47 : Cond.selects "SplitTowersModel" yX10_isBefore yX10_isBefore ∈ WS := in_WS 47 (by decide +kernel) (by decide +kernel)
theorem w48 : Cond.selects "SplitTowersModel" yX10_swaps yX10_swaps ∈ WS := in_WS 48 (by decide +kernel) (by decide +kernel)
theorem w49 : Cond.selects "SplitTowersModel" yX10_recordsBefore yX10_recordsBefore ∈ WS := in_WS 49 (by decide +kernel) (by decide +kernel)
theorem w50 : Cond.selects "SplitTowersModel" yX10_nothings yX10_nothings ∈ WS := in_WS 50 (by decide +kernel) (by decide +kernel)
theorem w51 : Cond.selects "SplitTowersModel" yX10_takesDegree yX10_takesDegree ∈ WS := in_WS 51 (by decide +kernel) (by decide +kernel)
theorem w52 : Cond.selects "SplitTowersModel" yX10_raises yX10_raises ∈ WS := in_WS 52 (by decide +kernel) (by decide +kernel)
theorem w53 : Cond.selects "SplitTowersModel" yX10_goes yX10_goes ∈ WS := in_WS 53 (by decide +kernel) (by decide +kernel)
theorem w54 : Cond.selects "SplitTowersModel" yX10_placeOf yX10_placeOf ∈ WS := in_WS 54 (by decide +kernel) (by decide +kernel)
theorem w55 : Cond.selects "SplitTowersModel" yX10_goesAlong yX10_goesAlong ∈ WS := in_WS 55 (by decide +kernel) (by decide +kernel)
theorem w56 : Cond.selects "SplitTowersModel" yX10_takesSimple yX10_takesSimple ∈ WS := in_WS 56 (by decide +kernel) (by decide +kernel)
theorem w57 : Cond.selects "SplitTowersModel" yX10_takesPower yX10_takesPower ∈ WS := in_WS 57 (by decide +kernel) (by decide +kernel)
theorem w58 : Cond.selects "SplitTowersModel" yX10_joinsProduct yX10_joinsProduct ∈ WS := in_WS 58 (by decide +kernel) (by decide +kernel)
theorem w59 : Cond.selects "SplitTowersModel" yX10_quotient yX10_quotient ∈ WS := in_WS 59 (by decide +kernel) (by decide +kernel)
theorem w60 : Cond.selects "SplitTowersModel" yX10_joinsSum yX10_joinsSum ∈ WS := in_WS 60 (by decide +kernel) (by decide +kernel)
theorem w61 : Cond.selects "SplitTowersModel" yX10_degreeOfBranch yX10_degreeOfBranch ∈ WS := in_WS 61 (by decide +kernel) (by decide +kernel)
theorem w62 : Cond.selects "SplitTowersModel" yX10_findsLeast yX10_findsLeast ∈ WS := in_WS 62 (by decide +kernel) (by decide +kernel)
theorem w63 : Cond.selects "SplitTowersModel" yX10_countsFactors yX10_countsFactors ∈ WS := in_WS 63 (by decide +kernel) (by decide +kernel)
theorem w64 : Cond.selects "SplitTowersModel" yX10_isOne yX10_isOne ∈ WS := in_WS 64 (by decide +kernel) (by decide +kernel)
theorem w65 : Cond.selects "SplitTowersModel" yX10_allFactors yX10_allFactors ∈ WS := in_WS 65 (by decide +kernel) (by decide +kernel)
theorem w66 : Cond.selects "SplitTowersModel" yX10_zeros yX10_zeros ∈ WS := in_WS 66 (by decide +kernel) (by decide +kernel)
theorem w67 : Cond.initialized "SplitTowersLaw" ∈ WS := in_WS 67 (by decide +kernel) (by decide +kernel)
theorem w68 : Cond.initialized "SplitTowers" ∈ WS := in_WS 68 (by decide +kernel) (by decide +kernel)
theorem w69 : Cond.initialized "SplitTowers$State" ∈ WS := in_WS 69 (by decide +kernel) (by decide +kernel)
theorem w70 : Cond.initialized "SplitTowers$Poly" ∈ WS := in_WS 70 (by decide +kernel) (by decide +kernel)
theorem w71 : Cond.initialized "java/lang/Math" ∈ WS := in_WS 71 (by decide +kernel) (by decide +kernel)
theorem w72 : Cond.initialized "SplitTowers$Text" ∈ WS := in_WS 72 (by decide +kernel) (by decide +kernel)
theorem w73 : Cond.initialized "SplitTowers$Field" ∈ WS := in_WS 73 (by decide +kernel) (by decide +kernel)
theorem w74 : Cond.initialized "SplitTowers$Ring" ∈ WS := in_WS 74 (by decide +kernel) (by decide +kernel)
theorem w75 : Cond.initialized "SplitTowers$Branching" ∈ WS := in_WS 75 (by decide +kernel) (by decide +kernel)
theorem w76 : Cond.initialized "SplitTowers$Degrees" ∈ WS := in_WS 76 (by decide +kernel) (by decide +kernel)
theorem w77 : Cond.initialized "SplitTowers$Reckoner" ∈ WS := in_WS 77 (by decide +kernel) (by decide +kernel)
theorem w78 : Cond.initialized "SplitTowers$History" ∈ WS := in_WS 78 (by decide +kernel) (by decide +kernel)
theorem w79 : Cond.initialized "SplitTowersModel" ∈ WS := in_WS 79 (by decide +kernel) (by decide +kernel)
theorem w80 : Cond.classLink "SplitTowersLaw" 7 "SplitTowers" ∈ WS := in_WS 80 (by decide +kernel) (by decide +kernel)
theorem w81 : Cond.instantiable "SplitTowers" 11 ∈ WS := in_WS 81 (by decide +kernel) (by decide +kernel)
theorem w82 : Cond.methodLink "SplitTowersLaw" 9 yX9_init ∈ WS := in_WS 82 (by decide +kernel) (by decide +kernel)
theorem w83 : Cond.instanceMethod yX9_init ∈ WS := in_WS 83 (by decide +kernel) (by decide +kernel)
theorem w84 : Cond.code yX9_init prog_1_method_1_code 6 (Option.none : Option Jvm.ClassFile.FieldType) ∈ WS := in_WS 84 (by decide +kernel) (by decide +kernel)
theorem w85 : Cond.methodLink "SplitTowers" 1 objectInit ∈ WS := in_WS 85 (by decide +kernel) (by decide +kernel)
theorem w86 : Cond.instanceMethod objectInit ∈ WS := in_WS 86 (by decide +kernel) (by decide +kernel)
theorem w87 : Cond.code objectInit object_method_1_code 1 (Option.none : Option Jvm.ClassFile.FieldType) ∈ WS := in_WS 87 (by decide +kernel) (by decide +kernel)
theorem w88 : Cond.classLink "SplitTowers" 7 "SplitTowers$State" ∈ WS := in_WS 88 (by decide +kernel) (by decide +kernel)
theorem w89 : Cond.instantiable "SplitTowers$State" 5 ∈ WS := in_WS 89 (by decide +kernel) (by decide +kernel)
theorem w90 : Cond.methodLink "SplitTowers" 9 yX7_init ∈ WS := in_WS 90 (by decide +kernel) (by decide +kernel)
theorem w91 : Cond.instanceMethod yX7_init ∈ WS := in_WS 91 (by decide +kernel) (by decide +kernel)
theorem w92 : Cond.code yX7_init prog_9_method_1_code 2 (Option.none : Option Jvm.ClassFile.FieldType) ∈ WS := in_WS 92 (by decide +kernel) (by decide +kernel)
theorem w93 : Cond.methodLink "SplitTowers$State" 3 objectInit ∈ WS := in_WS 93 (by decide +kernel) (by decide +kernel)
theorem w94 : Cond.classLink "SplitTowers$State" 9 "SplitTowers$Poly" ∈ WS := in_WS 94 (by decide +kernel) (by decide +kernel)
theorem w95 : Cond.instantiable "SplitTowers$Poly" 2 ∈ WS := in_WS 95 (by decide +kernel) (by decide +kernel)
theorem w96 : Cond.methodLink "SplitTowers$State" 11 yX4_init ∈ WS := in_WS 96 (by decide +kernel) (by decide +kernel)
theorem w97 : Cond.instanceMethod yX4_init ∈ WS := in_WS 97 (by decide +kernel) (by decide +kernel)
theorem w98 : Cond.code yX4_init prog_6_method_1_code 1 (Option.none : Option Jvm.ClassFile.FieldType) ∈ WS := in_WS 98 (by decide +kernel) (by decide +kernel)
theorem w99 : Cond.methodLink "SplitTowers$Poly" 3 objectInit ∈ WS := in_WS 99 (by decide +kernel) (by decide +kernel)
theorem w100 : Cond.fieldLink "SplitTowers$Poly" 11 "SplitTowers$Poly" "coefficients" "[I" ∈ WS := in_WS 100 (by decide +kernel) (by decide +kernel)
theorem w101 : Cond.fieldLink "SplitTowers$Poly" 15 "SplitTowers$Poly" "degree" "I" ∈ WS := in_WS 101 (by decide +kernel) (by decide +kernel)
theorem w102 : Cond.fieldLink "SplitTowers$Branching" 41 "SplitTowers$Poly" "degree" "I" ∈ WS := in_WS 102 (by decide +kernel) (by decide +kernel)
theorem w103 : Cond.fieldLink "SplitTowers$Degrees" 80 "SplitTowers$Poly" "degree" "I" ∈ WS := in_WS 103 (by decide +kernel) (by decide +kernel)
theorem w104 : Cond.fieldLink "SplitTowers" 135 "SplitTowers$Poly" "degree" "I" ∈ WS := in_WS 104 (by decide +kernel) (by decide +kernel)
theorem w105 : Cond.fieldLink "SplitTowers$Field" 55 "SplitTowers$Poly" "degree" "I" ∈ WS := in_WS 105 (by decide +kernel) (by decide +kernel)
theorem w106 : Cond.fieldLink "SplitTowers$State" 53 "SplitTowers$Poly" "degree" "I" ∈ WS := in_WS 106 (by decide +kernel) (by decide +kernel)
theorem w107 : Cond.fieldLink "SplitTowers$Ring" 109 "SplitTowers$Poly" "degree" "I" ∈ WS := in_WS 107 (by decide +kernel) (by decide +kernel)
theorem w113 : Cond.arrayClass Jvm.ClassFile.FieldType.int ∈ WS := in_WS 113 (by decide +kernel) (by decide +kernel)
theorem w115 : Cond.methodLink "SplitTowers$State" 25 yX7_start ∈ WS := in_WS 115 (by decide +kernel) (by decide +kernel)
theorem w116 : Cond.instanceMethod yX7_start ∈ WS := in_WS 116 (by decide +kernel) (by decide +kernel)
theorem w117 : Cond.selects "SplitTowers$State" yX7_start yX7_start ∈ WS := in_WS 117 (by decide +kernel) (by decide +kernel)
theorem w118 : Cond.code yX7_start prog_9_method_2_code 3 (Option.none : Option Jvm.ClassFile.FieldType) ∈ WS := in_WS 118 (by decide +kernel) (by decide +kernel)
theorem w119 : Cond.methodLink "SplitTowers$State" 33 yX4_becomeVariable ∈ WS := in_WS 119 (by decide +kernel) (by decide +kernel)
theorem w120 : Cond.instanceMethod yX4_becomeVariable ∈ WS := in_WS 120 (by decide +kernel) (by decide +kernel)
theorem w121 : Cond.selects "SplitTowers$Poly" yX4_becomeVariable yX4_becomeVariable ∈ WS := in_WS 121 (by decide +kernel) (by decide +kernel)
theorem w122 : Cond.code yX4_becomeVariable prog_6_method_6_code 1 (Option.none : Option Jvm.ClassFile.FieldType) ∈ WS := in_WS 122 (by decide +kernel) (by decide +kernel)
theorem w123 : Cond.methodLink "SplitTowers$Poly" 28 yX4_clear ∈ WS := in_WS 123 (by decide +kernel) (by decide +kernel)
theorem w124 : Cond.instanceMethod yX4_clear ∈ WS := in_WS 124 (by decide +kernel) (by decide +kernel)
theorem w125 : Cond.selects "SplitTowers$Poly" yX4_clear yX4_clear ∈ WS := in_WS 125 (by decide +kernel) (by decide +kernel)
theorem w126 : Cond.code yX4_clear prog_6_method_4_code 2 (Option.none : Option Jvm.ClassFile.FieldType) ∈ WS := in_WS 126 (by decide +kernel) (by decide +kernel)
theorem w127 : Cond.methodLink "SplitTowers$Poly" 31 yX4_set ∈ WS := in_WS 127 (by decide +kernel) (by decide +kernel)
theorem w128 : Cond.instanceMethod yX4_set ∈ WS := in_WS 128 (by decide +kernel) (by decide +kernel)
theorem w129 : Cond.selects "SplitTowers$Poly" yX4_set yX4_set ∈ WS := in_WS 129 (by decide +kernel) (by decide +kernel)
theorem w130 : Cond.code yX4_set prog_6_method_3_code 3 (Option.none : Option Jvm.ClassFile.FieldType) ∈ WS := in_WS 130 (by decide +kernel) (by decide +kernel)
theorem w131 : Cond.methodLink "SplitTowers$Poly" 19 Lib.Math.max.name ∈ WS := in_WS 131 (by decide +kernel) (by decide +kernel)
theorem w132 : Cond.static Lib.Math.max.name ∈ WS := in_WS 132 (by decide +kernel) (by decide +kernel)
theorem w133 : Cond.code Lib.Math.max.name prog_13_method_65_code 2 (Option.some Jvm.ClassFile.FieldType.int) ∈ WS := in_WS 133 (by decide +kernel) (by decide +kernel)
theorem w134 : Cond.methodLink "SplitTowers$Poly" 25 yX4_lowerDegree ∈ WS := in_WS 134 (by decide +kernel) (by decide +kernel)
theorem w136 : Cond.instanceMethod yX4_lowerDegree ∈ WS := in_WS 136 (by decide +kernel) (by decide +kernel)
theorem w137 : Cond.code yX4_lowerDegree prog_6_method_12_code 1 (Option.none : Option Jvm.ClassFile.FieldType) ∈ WS := in_WS 137 (by decide +kernel) (by decide +kernel)
theorem w138 : Cond.methodLink "SplitTowers$State" 36 yX4_clear ∈ WS := in_WS 138 (by decide +kernel) (by decide +kernel)
theorem w139 : Cond.methodLink "SplitTowers$State" 39 yX7_becomeOneBranch ∈ WS := in_WS 139 (by decide +kernel) (by decide +kernel)
theorem w141 : Cond.instanceMethod yX7_becomeOneBranch ∈ WS := in_WS 141 (by decide +kernel) (by decide +kernel)
theorem w142 : Cond.code yX7_becomeOneBranch prog_9_method_10_code 1 (Option.none : Option Jvm.ClassFile.FieldType) ∈ WS := in_WS 142 (by decide +kernel) (by decide +kernel)
theorem w143 : Cond.methodLink "SplitTowers$State" 62 yX7_addBranch ∈ WS := in_WS 143 (by decide +kernel) (by decide +kernel)
theorem w144 : Cond.instanceMethod yX7_addBranch ∈ WS := in_WS 144 (by decide +kernel) (by decide +kernel)
theorem w145 : Cond.selects "SplitTowers$State" yX7_addBranch yX7_addBranch ∈ WS := in_WS 145 (by decide +kernel) (by decide +kernel)
theorem w146 : Cond.code yX7_addBranch prog_9_method_6_code 2 (Option.none : Option Jvm.ClassFile.FieldType) ∈ WS := in_WS 146 (by decide +kernel) (by decide +kernel)
theorem w147 : Cond.methodLink "SplitTowers$State" 42 yX4_copy ∈ WS := in_WS 147 (by decide +kernel) (by decide +kernel)
theorem w148 : Cond.instanceMethod yX4_copy ∈ WS := in_WS 148 (by decide +kernel) (by decide +kernel)
theorem w149 : Cond.selects "SplitTowers$Poly" yX4_copy yX4_copy ∈ WS := in_WS 149 (by decide +kernel) (by decide +kernel)
theorem w150 : Cond.code yX4_copy prog_6_method_7_code 3 (Option.none : Option Jvm.ClassFile.FieldType) ∈ WS := in_WS 150 (by decide +kernel) (by decide +kernel)
theorem w151 : Cond.fieldLink "SplitTowers$State" 29 "SplitTowers$State" "prime" "I" ∈ WS := in_WS 151 (by decide +kernel) (by decide +kernel)
theorem w152 : Cond.fieldLink "SplitTowers$Field" 38 "SplitTowers$State" "prime" "I" ∈ WS := in_WS 152 (by decide +kernel) (by decide +kernel)
theorem w153 : Cond.fieldLink "SplitTowers" 91 "SplitTowers$State" "prime" "I" ∈ WS := in_WS 153 (by decide +kernel) (by decide +kernel)
theorem w154 : Cond.fieldLink "SplitTowers$Degrees" 59 "SplitTowers$State" "prime" "I" ∈ WS := in_WS 154 (by decide +kernel) (by decide +kernel)
theorem w155 : Cond.fieldLink "SplitTowers$Ring" 68 "SplitTowers$State" "prime" "I" ∈ WS := in_WS 155 (by decide +kernel) (by decide +kernel)
theorem w156 : Cond.fieldLink "SplitTowers$Branching" 62 "SplitTowers$State" "prime" "I" ∈ WS := in_WS 156 (by decide +kernel) (by decide +kernel)
theorem w157 : Cond.fieldLink "SplitTowers$State" 12 "SplitTowers$State" "modulus" "LSplitTowers$Poly;" ∈ WS := in_WS 157 (by decide +kernel) (by decide +kernel)
theorem w158 : Cond.fieldLink "SplitTowers$Degrees" 43 "SplitTowers$State" "modulus" "LSplitTowers$Poly;" ∈ WS := in_WS 158 (by decide +kernel) (by decide +kernel)
theorem w159 : Cond.fieldLink "SplitTowers$Ring" 57 "SplitTowers$State" "modulus" "LSplitTowers$Poly;" ∈ WS := in_WS 159 (by decide +kernel) (by decide +kernel)
theorem w160 : Cond.fieldLink "SplitTowers" 118 "SplitTowers$State" "modulus" "LSplitTowers$Poly;" ∈ WS := in_WS 160 (by decide +kernel) (by decide +kernel)
theorem w161 : Cond.fieldLink "SplitTowers$State" 18 "SplitTowers$State" "registers" "[LSplitTowers$Poly;" ∈ WS := in_WS 161 (by decide +kernel) (by decide +kernel)
theorem w162 : Cond.fieldLink "SplitTowers" 127 "SplitTowers$State" "registers" "[LSplitTowers$Poly;" ∈ WS := in_WS 162 (by decide +kernel) (by decide +kernel)
theorem w163 : Cond.fieldLink "SplitTowers$Reckoner" 124 "SplitTowers$State" "registers" "[LSplitTowers$Poly;" ∈ WS := in_WS 163 (by decide +kernel) (by decide +kernel)
theorem w164 : Cond.fieldLink "SplitTowers$State" 22 "SplitTowers$State" "branches" "[LSplitTowers$Poly;" ∈ WS := in_WS 164 (by decide +kernel) (by decide +kernel)
theorem w165 : Cond.fieldLink "SplitTowers$Branching" 50 "SplitTowers$State" "branches" "[LSplitTowers$Poly;" ∈ WS := in_WS 165 (by decide +kernel) (by decide +kernel)
theorem w166 : Cond.fieldLink "SplitTowers" 165 "SplitTowers$State" "branches" "[LSplitTowers$Poly;" ∈ WS := in_WS 166 (by decide +kernel) (by decide +kernel)
theorem w167 : Cond.fieldLink "SplitTowers$Branching" 45 "SplitTowers$State" "branchCount" "I" ∈ WS := in_WS 167 (by decide +kernel) (by decide +kernel)
theorem w168 : Cond.fieldLink "SplitTowers$State" 46 "SplitTowers$State" "branchCount" "I" ∈ WS := in_WS 168 (by decide +kernel) (by decide +kernel)
theorem w169 : Cond.fieldLink "SplitTowers" 159 "SplitTowers$State" "branchCount" "I" ∈ WS := in_WS 169 (by decide +kernel) (by decide +kernel)
theorem w181 : Cond.classLink "SplitTowers" 10 "SplitTowers$Text" ∈ WS := in_WS 181 (by decide +kernel) (by decide +kernel)
theorem w182 : Cond.instantiable "SplitTowers$Text" 4 ∈ WS := in_WS 182 (by decide +kernel) (by decide +kernel)
theorem w183 : Cond.methodLink "SplitTowers" 12 yX8_init ∈ WS := in_WS 183 (by decide +kernel) (by decide +kernel)
theorem w184 : Cond.instanceMethod yX8_init ∈ WS := in_WS 184 (by decide +kernel) (by decide +kernel)
theorem w185 : Cond.code yX8_init prog_10_method_1_code 1 (Option.none : Option Jvm.ClassFile.FieldType) ∈ WS := in_WS 185 (by decide +kernel) (by decide +kernel)
theorem w186 : Cond.methodLink "SplitTowers$Text" 3 objectInit ∈ WS := in_WS 186 (by decide +kernel) (by decide +kernel)
theorem w187 : Cond.fieldLink "SplitTowers$Text" 11 "SplitTowers$Text" "characters" "[I" ∈ WS := in_WS 187 (by decide +kernel) (by decide +kernel)
theorem w188 : Cond.fieldLink "SplitTowers$Text" 15 "SplitTowers$Text" "length" "I" ∈ WS := in_WS 188 (by decide +kernel) (by decide +kernel)
theorem w189 : Cond.fieldLink "SplitTowers$Reckoner" 55 "SplitTowers$Text" "length" "I" ∈ WS := in_WS 189 (by decide +kernel) (by decide +kernel)
theorem w190 : Cond.fieldLink "SplitTowers" 203 "SplitTowers$Text" "length" "I" ∈ WS := in_WS 190 (by decide +kernel) (by decide +kernel)
theorem w191 : Cond.fieldLink "SplitTowers$Text" 19 "SplitTowers$Text" "told" "[I" ∈ WS := in_WS 191 (by decide +kernel) (by decide +kernel)
theorem w192 : Cond.fieldLink "SplitTowers" 254 "SplitTowers$Text" "told" "[I" ∈ WS := in_WS 192 (by decide +kernel) (by decide +kernel)
theorem w193 : Cond.fieldLink "SplitTowers$Text" 22 "SplitTowers$Text" "toldCount" "I" ∈ WS := in_WS 193 (by decide +kernel) (by decide +kernel)
theorem w194 : Cond.fieldLink "SplitTowers" 251 "SplitTowers$Text" "toldCount" "I" ∈ WS := in_WS 194 (by decide +kernel) (by decide +kernel)
theorem w204 : Cond.classLink "SplitTowers" 13 "SplitTowers$Field" ∈ WS := in_WS 204 (by decide +kernel) (by decide +kernel)
theorem w205 : Cond.instantiable "SplitTowers$Field" 8 ∈ WS := in_WS 205 (by decide +kernel) (by decide +kernel)
theorem w206 : Cond.methodLink "SplitTowers" 15 yX2_init ∈ WS := in_WS 206 (by decide +kernel) (by decide +kernel)
theorem w207 : Cond.instanceMethod yX2_init ∈ WS := in_WS 207 (by decide +kernel) (by decide +kernel)
theorem w208 : Cond.code yX2_init prog_4_method_1_code 2 (Option.none : Option Jvm.ClassFile.FieldType) ∈ WS := in_WS 208 (by decide +kernel) (by decide +kernel)
theorem w209 : Cond.methodLink "SplitTowers$Field" 1 objectInit ∈ WS := in_WS 209 (by decide +kernel) (by decide +kernel)
theorem w210 : Cond.classLink "SplitTowers$Field" 13 "SplitTowers$Poly" ∈ WS := in_WS 210 (by decide +kernel) (by decide +kernel)
theorem w211 : Cond.methodLink "SplitTowers$Field" 15 yX4_init ∈ WS := in_WS 211 (by decide +kernel) (by decide +kernel)
theorem w212 : Cond.fieldLink "SplitTowers$Field" 7 "SplitTowers$Field" "state" "LSplitTowers$State;" ∈ WS := in_WS 212 (by decide +kernel) (by decide +kernel)
theorem w213 : Cond.fieldLink "SplitTowers$Field" 16 "SplitTowers$Field" "product" "LSplitTowers$Poly;" ∈ WS := in_WS 213 (by decide +kernel) (by decide +kernel)
theorem w214 : Cond.fieldLink "SplitTowers$Field" 20 "SplitTowers$Field" "quotient" "LSplitTowers$Poly;" ∈ WS := in_WS 214 (by decide +kernel) (by decide +kernel)
theorem w215 : Cond.fieldLink "SplitTowers$Field" 23 "SplitTowers$Field" "dividend" "LSplitTowers$Poly;" ∈ WS := in_WS 215 (by decide +kernel) (by decide +kernel)
theorem w216 : Cond.fieldLink "SplitTowers$Field" 26 "SplitTowers$Field" "left" "LSplitTowers$Poly;" ∈ WS := in_WS 216 (by decide +kernel) (by decide +kernel)
theorem w217 : Cond.fieldLink "SplitTowers$Field" 29 "SplitTowers$Field" "right" "LSplitTowers$Poly;" ∈ WS := in_WS 217 (by decide +kernel) (by decide +kernel)
theorem w218 : Cond.fieldLink "SplitTowers$Field" 32 "SplitTowers$Field" "leftFactor" "LSplitTowers$Poly;" ∈ WS := in_WS 218 (by decide +kernel) (by decide +kernel)
theorem w219 : Cond.fieldLink "SplitTowers$Field" 35 "SplitTowers$Field" "rightFactor" "LSplitTowers$Poly;" ∈ WS := in_WS 219 (by decide +kernel) (by decide +kernel)
theorem w237 : Cond.classLink "SplitTowers" 18 "SplitTowers$Ring" ∈ WS := in_WS 237 (by decide +kernel) (by decide +kernel)
theorem w238 : Cond.instantiable "SplitTowers$Ring" 12 ∈ WS := in_WS 238 (by decide +kernel) (by decide +kernel)
theorem w239 : Cond.methodLink "SplitTowers" 20 yX6_init ∈ WS := in_WS 239 (by decide +kernel) (by decide +kernel)
theorem w240 : Cond.instanceMethod yX6_init ∈ WS := in_WS 240 (by decide +kernel) (by decide +kernel)
theorem w241 : Cond.code yX6_init prog_8_method_1_code 4 (Option.none : Option Jvm.ClassFile.FieldType) ∈ WS := in_WS 241 (by decide +kernel) (by decide +kernel)
theorem w242 : Cond.methodLink "SplitTowers$Ring" 3 objectInit ∈ WS := in_WS 242 (by decide +kernel) (by decide +kernel)
theorem w243 : Cond.classLink "SplitTowers$Ring" 19 "SplitTowers$Poly" ∈ WS := in_WS 243 (by decide +kernel) (by decide +kernel)
theorem w244 : Cond.methodLink "SplitTowers$Ring" 21 yX4_init ∈ WS := in_WS 244 (by decide +kernel) (by decide +kernel)
theorem w245 : Cond.fieldLink "SplitTowers$Ring" 9 "SplitTowers$Ring" "state" "LSplitTowers$State;" ∈ WS := in_WS 245 (by decide +kernel) (by decide +kernel)
theorem w246 : Cond.fieldLink "SplitTowers$Ring" 15 "SplitTowers$Ring" "field" "LSplitTowers$Field;" ∈ WS := in_WS 246 (by decide +kernel) (by decide +kernel)
theorem w247 : Cond.fieldLink "SplitTowers$Ring" 22 "SplitTowers$Ring" "quotient" "LSplitTowers$Poly;" ∈ WS := in_WS 247 (by decide +kernel) (by decide +kernel)
theorem w248 : Cond.fieldLink "SplitTowers$Ring" 26 "SplitTowers$Ring" "square" "LSplitTowers$Poly;" ∈ WS := in_WS 248 (by decide +kernel) (by decide +kernel)
theorem w249 : Cond.fieldLink "SplitTowers$Ring" 29 "SplitTowers$Ring" "common" "LSplitTowers$Poly;" ∈ WS := in_WS 249 (by decide +kernel) (by decide +kernel)
theorem w250 : Cond.fieldLink "SplitTowers$Ring" 32 "SplitTowers$Ring" "cofactor" "LSplitTowers$Poly;" ∈ WS := in_WS 250 (by decide +kernel) (by decide +kernel)
theorem w251 : Cond.fieldLink "SplitTowers$Ring" 35 "SplitTowers$Ring" "inverse" "LSplitTowers$Poly;" ∈ WS := in_WS 251 (by decide +kernel) (by decide +kernel)
theorem w252 : Cond.fieldLink "SplitTowers$Ring" 38 "SplitTowers$Ring" "work" "LSplitTowers$Poly;" ∈ WS := in_WS 252 (by decide +kernel) (by decide +kernel)
theorem w253 : Cond.fieldLink "SplitTowers$Ring" 41 "SplitTowers$Ring" "vector" "LSplitTowers$Poly;" ∈ WS := in_WS 253 (by decide +kernel) (by decide +kernel)
theorem w254 : Cond.fieldLink "SplitTowers$Ring" 44 "SplitTowers$Ring" "relation" "LSplitTowers$Poly;" ∈ WS := in_WS 254 (by decide +kernel) (by decide +kernel)
theorem w255 : Cond.fieldLink "SplitTowers$Ring" 47 "SplitTowers$Ring" "rows" "[LSplitTowers$Poly;" ∈ WS := in_WS 255 (by decide +kernel) (by decide +kernel)
theorem w256 : Cond.fieldLink "SplitTowers$Ring" 51 "SplitTowers$Ring" "relations" "[LSplitTowers$Poly;" ∈ WS := in_WS 256 (by decide +kernel) (by decide +kernel)
theorem w282 : Cond.classLink "SplitTowers" 23 "SplitTowers$Branching" ∈ WS := in_WS 282 (by decide +kernel) (by decide +kernel)
theorem w283 : Cond.instantiable "SplitTowers$Branching" 6 ∈ WS := in_WS 283 (by decide +kernel) (by decide +kernel)
theorem w284 : Cond.methodLink "SplitTowers" 25 yX0_init ∈ WS := in_WS 284 (by decide +kernel) (by decide +kernel)
theorem w285 : Cond.instanceMethod yX0_init ∈ WS := in_WS 285 (by decide +kernel) (by decide +kernel)
theorem w286 : Cond.code yX0_init prog_2_method_1_code 3 (Option.none : Option Jvm.ClassFile.FieldType) ∈ WS := in_WS 286 (by decide +kernel) (by decide +kernel)
theorem w287 : Cond.methodLink "SplitTowers$Branching" 3 objectInit ∈ WS := in_WS 287 (by decide +kernel) (by decide +kernel)
theorem w288 : Cond.classLink "SplitTowers$Branching" 19 "SplitTowers$Poly" ∈ WS := in_WS 288 (by decide +kernel) (by decide +kernel)
theorem w289 : Cond.methodLink "SplitTowers$Branching" 21 yX4_init ∈ WS := in_WS 289 (by decide +kernel) (by decide +kernel)
theorem w290 : Cond.fieldLink "SplitTowers$Branching" 9 "SplitTowers$Branching" "state" "LSplitTowers$State;" ∈ WS := in_WS 290 (by decide +kernel) (by decide +kernel)
theorem w291 : Cond.fieldLink "SplitTowers$Branching" 15 "SplitTowers$Branching" "field" "LSplitTowers$Field;" ∈ WS := in_WS 291 (by decide +kernel) (by decide +kernel)
theorem w292 : Cond.fieldLink "SplitTowers$Branching" 22 "SplitTowers$Branching" "common" "LSplitTowers$Poly;" ∈ WS := in_WS 292 (by decide +kernel) (by decide +kernel)
theorem w293 : Cond.fieldLink "SplitTowers$Branching" 26 "SplitTowers$Branching" "rest" "LSplitTowers$Poly;" ∈ WS := in_WS 293 (by decide +kernel) (by decide +kernel)
theorem w294 : Cond.fieldLink "SplitTowers$Branching" 29 "SplitTowers$Branching" "nothings" "LSplitTowers$Poly;" ∈ WS := in_WS 294 (by decide +kernel) (by decide +kernel)
theorem w295 : Cond.fieldLink "SplitTowers$Branching" 32 "SplitTowers$Branching" "others" "LSplitTowers$Poly;" ∈ WS := in_WS 295 (by decide +kernel) (by decide +kernel)
theorem w309 : Cond.classLink "SplitTowers" 26 "SplitTowers$Degrees" ∈ WS := in_WS 309 (by decide +kernel) (by decide +kernel)
theorem w310 : Cond.instantiable "SplitTowers$Degrees" 8 ∈ WS := in_WS 310 (by decide +kernel) (by decide +kernel)
theorem w311 : Cond.methodLink "SplitTowers" 28 yX1_init ∈ WS := in_WS 311 (by decide +kernel) (by decide +kernel)
theorem w312 : Cond.instanceMethod yX1_init ∈ WS := in_WS 312 (by decide +kernel) (by decide +kernel)
theorem w313 : Cond.code yX1_init prog_3_method_1_code 5 (Option.none : Option Jvm.ClassFile.FieldType) ∈ WS := in_WS 313 (by decide +kernel) (by decide +kernel)
theorem w314 : Cond.methodLink "SplitTowers$Degrees" 3 objectInit ∈ WS := in_WS 314 (by decide +kernel) (by decide +kernel)
theorem w315 : Cond.classLink "SplitTowers$Degrees" 23 "SplitTowers$Poly" ∈ WS := in_WS 315 (by decide +kernel) (by decide +kernel)
theorem w316 : Cond.methodLink "SplitTowers$Degrees" 29 yX4_init ∈ WS := in_WS 316 (by decide +kernel) (by decide +kernel)
theorem w317 : Cond.fieldLink "SplitTowers$Degrees" 9 "SplitTowers$Degrees" "state" "LSplitTowers$State;" ∈ WS := in_WS 317 (by decide +kernel) (by decide +kernel)
theorem w318 : Cond.fieldLink "SplitTowers$Degrees" 15 "SplitTowers$Degrees" "field" "LSplitTowers$Field;" ∈ WS := in_WS 318 (by decide +kernel) (by decide +kernel)
theorem w319 : Cond.fieldLink "SplitTowers$Degrees" 19 "SplitTowers$Degrees" "ring" "LSplitTowers$Ring;" ∈ WS := in_WS 319 (by decide +kernel) (by decide +kernel)
theorem w320 : Cond.fieldLink "SplitTowers$Degrees" 25 "SplitTowers$Degrees" "products" "[LSplitTowers$Poly;" ∈ WS := in_WS 320 (by decide +kernel) (by decide +kernel)
theorem w321 : Cond.fieldLink "SplitTowers" 189 "SplitTowers$Degrees" "products" "[LSplitTowers$Poly;" ∈ WS := in_WS 321 (by decide +kernel) (by decide +kernel)
theorem w322 : Cond.fieldLink "SplitTowers$Degrees" 30 "SplitTowers$Degrees" "rest" "LSplitTowers$Poly;" ∈ WS := in_WS 322 (by decide +kernel) (by decide +kernel)
theorem w323 : Cond.fieldLink "SplitTowers$Degrees" 34 "SplitTowers$Degrees" "raised" "LSplitTowers$Poly;" ∈ WS := in_WS 323 (by decide +kernel) (by decide +kernel)
theorem w324 : Cond.fieldLink "SplitTowers$Degrees" 37 "SplitTowers$Degrees" "difference" "LSplitTowers$Poly;" ∈ WS := in_WS 324 (by decide +kernel) (by decide +kernel)
theorem w325 : Cond.fieldLink "SplitTowers$Degrees" 40 "SplitTowers$Degrees" "variable" "LSplitTowers$Poly;" ∈ WS := in_WS 325 (by decide +kernel) (by decide +kernel)
theorem w343 : Cond.classLink "SplitTowers" 37 "SplitTowers$Reckoner" ∈ WS := in_WS 343 (by decide +kernel) (by decide +kernel)
theorem w344 : Cond.instantiable "SplitTowers$Reckoner" 10 ∈ WS := in_WS 344 (by decide +kernel) (by decide +kernel)
theorem w345 : Cond.methodLink "SplitTowers" 39 yX5_init ∈ WS := in_WS 345 (by decide +kernel) (by decide +kernel)
theorem w346 : Cond.instanceMethod yX5_init ∈ WS := in_WS 346 (by decide +kernel) (by decide +kernel)
theorem w347 : Cond.code yX5_init prog_7_method_1_code 6 (Option.none : Option Jvm.ClassFile.FieldType) ∈ WS := in_WS 347 (by decide +kernel) (by decide +kernel)
theorem w348 : Cond.methodLink "SplitTowers$Reckoner" 3 objectInit ∈ WS := in_WS 348 (by decide +kernel) (by decide +kernel)
theorem w349 : Cond.classLink "SplitTowers$Reckoner" 27 "SplitTowers$Poly" ∈ WS := in_WS 349 (by decide +kernel) (by decide +kernel)
theorem w350 : Cond.methodLink "SplitTowers$Reckoner" 36 yX4_init ∈ WS := in_WS 350 (by decide +kernel) (by decide +kernel)
theorem w351 : Cond.fieldLink "SplitTowers$Reckoner" 9 "SplitTowers$Reckoner" "state" "LSplitTowers$State;" ∈ WS := in_WS 351 (by decide +kernel) (by decide +kernel)
theorem w352 : Cond.fieldLink "SplitTowers$Reckoner" 15 "SplitTowers$Reckoner" "text" "LSplitTowers$Text;" ∈ WS := in_WS 352 (by decide +kernel) (by decide +kernel)
theorem w353 : Cond.fieldLink "SplitTowers$Reckoner" 19 "SplitTowers$Reckoner" "ring" "LSplitTowers$Ring;" ∈ WS := in_WS 353 (by decide +kernel) (by decide +kernel)
theorem w354 : Cond.fieldLink "SplitTowers$Reckoner" 23 "SplitTowers$Reckoner" "branching" "LSplitTowers$Branching;" ∈ WS := in_WS 354 (by decide +kernel) (by decide +kernel)
theorem w355 : Cond.fieldLink "SplitTowers$Reckoner" 29 "SplitTowers$Reckoner" "sums" "[LSplitTowers$Poly;" ∈ WS := in_WS 355 (by decide +kernel) (by decide +kernel)
theorem w356 : Cond.fieldLink "SplitTowers$Reckoner" 33 "SplitTowers$Reckoner" "products" "[LSplitTowers$Poly;" ∈ WS := in_WS 356 (by decide +kernel) (by decide +kernel)
theorem w357 : Cond.fieldLink "SplitTowers$Reckoner" 37 "SplitTowers$Reckoner" "minus" "[Z" ∈ WS := in_WS 357 (by decide +kernel) (by decide +kernel)
theorem w358 : Cond.fieldLink "SplitTowers$Reckoner" 41 "SplitTowers$Reckoner" "over" "[Z" ∈ WS := in_WS 358 (by decide +kernel) (by decide +kernel)
theorem w359 : Cond.fieldLink "SplitTowers$Reckoner" 44 "SplitTowers$Reckoner" "factor" "LSplitTowers$Poly;" ∈ WS := in_WS 359 (by decide +kernel) (by decide +kernel)
theorem w360 : Cond.fieldLink "SplitTowers$Reckoner" 48 "SplitTowers$Reckoner" "level" "I" ∈ WS := in_WS 360 (by decide +kernel) (by decide +kernel)
theorem w382 : Cond.arrayClass Jvm.ClassFile.FieldType.boolean ∈ WS := in_WS 382 (by decide +kernel) (by decide +kernel)
theorem w383 : Cond.classLink "SplitTowers" 73 "SplitTowers$History" ∈ WS := in_WS 383 (by decide +kernel) (by decide +kernel)
theorem w384 : Cond.instantiable "SplitTowers$History" 3 ∈ WS := in_WS 384 (by decide +kernel) (by decide +kernel)
theorem w385 : Cond.methodLink "SplitTowers" 75 yX3_init ∈ WS := in_WS 385 (by decide +kernel) (by decide +kernel)
theorem w386 : Cond.instanceMethod yX3_init ∈ WS := in_WS 386 (by decide +kernel) (by decide +kernel)
theorem w387 : Cond.code yX3_init prog_5_method_1_code 2 (Option.none : Option Jvm.ClassFile.FieldType) ∈ WS := in_WS 387 (by decide +kernel) (by decide +kernel)
theorem w388 : Cond.methodLink "SplitTowers$History" 1 objectInit ∈ WS := in_WS 388 (by decide +kernel) (by decide +kernel)
theorem w389 : Cond.classLink "SplitTowers$History" 9 "SplitTowers$State" ∈ WS := in_WS 389 (by decide +kernel) (by decide +kernel)
theorem w391 : Cond.methodLink "SplitTowers$History" 15 yX7_init ∈ WS := in_WS 391 (by decide +kernel) (by decide +kernel)
theorem w392 : Cond.fieldLink "SplitTowers$History" 11 "SplitTowers$History" "states" "[LSplitTowers$State;" ∈ WS := in_WS 392 (by decide +kernel) (by decide +kernel)
theorem w393 : Cond.fieldLink "SplitTowers$History" 16 "SplitTowers$History" "next" "I" ∈ WS := in_WS 393 (by decide +kernel) (by decide +kernel)
theorem w394 : Cond.fieldLink "SplitTowers$History" 20 "SplitTowers$History" "length" "I" ∈ WS := in_WS 394 (by decide +kernel) (by decide +kernel)
theorem w395 : Cond.fieldLink "SplitTowers" 206 "SplitTowers$History" "length" "I" ∈ WS := in_WS 395 (by decide +kernel) (by decide +kernel)
theorem w403 : Cond.classLink "SplitTowers" 80 "SplitTowers$Poly" ∈ WS := in_WS 403 (by decide +kernel) (by decide +kernel)
theorem w404 : Cond.methodLink "SplitTowers" 82 yX4_init ∈ WS := in_WS 404 (by decide +kernel) (by decide +kernel)
theorem w405 : Cond.fieldLink "SplitTowers" 46 "SplitTowers" "now" "LSplitTowers$State;" ∈ WS := in_WS 405 (by decide +kernel) (by decide +kernel)
theorem w406 : Cond.fieldLink "SplitTowers" 66 "SplitTowers" "snapshot" "LSplitTowers$State;" ∈ WS := in_WS 406 (by decide +kernel) (by decide +kernel)
theorem w407 : Cond.fieldLink "SplitTowers" 69 "SplitTowers" "kept" "Z" ∈ WS := in_WS 407 (by decide +kernel) (by decide +kernel)
theorem w408 : Cond.fieldLink "SplitTowers" 76 "SplitTowers" "history" "LSplitTowers$History;" ∈ WS := in_WS 408 (by decide +kernel) (by decide +kernel)
theorem w409 : Cond.fieldLink "SplitTowers" 50 "SplitTowers" "text" "LSplitTowers$Text;" ∈ WS := in_WS 409 (by decide +kernel) (by decide +kernel)
theorem w410 : Cond.fieldLink "SplitTowers" 54 "SplitTowers" "field" "LSplitTowers$Field;" ∈ WS := in_WS 410 (by decide +kernel) (by decide +kernel)
theorem w411 : Cond.fieldLink "SplitTowers" 58 "SplitTowers" "ring" "LSplitTowers$Ring;" ∈ WS := in_WS 411 (by decide +kernel) (by decide +kernel)
theorem w412 : Cond.fieldLink "SplitTowers" 31 "SplitTowers" "degrees" "LSplitTowers$Degrees;" ∈ WS := in_WS 412 (by decide +kernel) (by decide +kernel)
theorem w413 : Cond.fieldLink "SplitTowers" 62 "SplitTowers" "branching" "LSplitTowers$Branching;" ∈ WS := in_WS 413 (by decide +kernel) (by decide +kernel)
theorem w414 : Cond.fieldLink "SplitTowers" 42 "SplitTowers" "reckoner" "LSplitTowers$Reckoner;" ∈ WS := in_WS 414 (by decide +kernel) (by decide +kernel)
theorem w415 : Cond.fieldLink "SplitTowers" 83 "SplitTowers" "answer" "LSplitTowers$Poly;" ∈ WS := in_WS 415 (by decide +kernel) (by decide +kernel)
theorem w439 : Cond.methodLink "SplitTowersLaw" 13 yX9_setPrime ∈ WS := in_WS 439 (by decide +kernel) (by decide +kernel)
theorem w440 : Cond.instanceMethod yX9_setPrime ∈ WS := in_WS 440 (by decide +kernel) (by decide +kernel)
theorem w441 : Cond.selects "SplitTowers" yX9_setPrime yX9_setPrime ∈ WS := in_WS 441 (by decide +kernel) (by decide +kernel)
theorem w442 : Cond.code yX9_setPrime prog_1_method_2_code 3 (Option.some Jvm.ClassFile.FieldType.int) ∈ WS := in_WS 442 (by decide +kernel) (by decide +kernel)
theorem w443 : Cond.methodLink "SplitTowers" 87 yX9_isPrime ∈ WS := in_WS 443 (by decide +kernel) (by decide +kernel)
theorem w444 : Cond.static yX9_isPrime ∈ WS := in_WS 444 (by decide +kernel) (by decide +kernel)
theorem w445 : Cond.code yX9_isPrime prog_1_method_28_code 1 (Option.some Jvm.ClassFile.FieldType.boolean) ∈ WS := in_WS 445 (by decide +kernel) (by decide +kernel)
theorem w446 : Cond.methodLink "SplitTowers" 95 yX3_record ∈ WS := in_WS 446 (by decide +kernel) (by decide +kernel)
theorem w447 : Cond.instanceMethod yX3_record ∈ WS := in_WS 447 (by decide +kernel) (by decide +kernel)
theorem w448 : Cond.selects "SplitTowers$History" yX3_record yX3_record ∈ WS := in_WS 448 (by decide +kernel) (by decide +kernel)
theorem w449 : Cond.code yX3_record prog_5_method_2_code 2 (Option.none : Option Jvm.ClassFile.FieldType) ∈ WS := in_WS 449 (by decide +kernel) (by decide +kernel)
theorem w450 : Cond.methodLink "SplitTowers$History" 23 yX7_copy ∈ WS := in_WS 450 (by decide +kernel) (by decide +kernel)
theorem w451 : Cond.instanceMethod yX7_copy ∈ WS := in_WS 451 (by decide +kernel) (by decide +kernel)
theorem w452 : Cond.selects "SplitTowers$State" yX7_copy yX7_copy ∈ WS := in_WS 452 (by decide +kernel) (by decide +kernel)
theorem w453 : Cond.code yX7_copy prog_9_method_4_code 3 (Option.none : Option Jvm.ClassFile.FieldType) ∈ WS := in_WS 453 (by decide +kernel) (by decide +kernel)
theorem w454 : Cond.methodLink "SplitTowers$History" 27 Lib.Math.min.name ∈ WS := in_WS 454 (by decide +kernel) (by decide +kernel)
theorem w455 : Cond.static Lib.Math.min.name ∈ WS := in_WS 455 (by decide +kernel) (by decide +kernel)
theorem w456 : Cond.code Lib.Math.min.name prog_13_method_69_code 2 (Option.some Jvm.ClassFile.FieldType.int) ∈ WS := in_WS 456 (by decide +kernel) (by decide +kernel)
theorem w457 : Cond.methodLink "SplitTowers" 98 yX7_start ∈ WS := in_WS 457 (by decide +kernel) (by decide +kernel)
theorem w458 : Cond.methodLink "SplitTowersLaw" 18 yX9_readModulus ∈ WS := in_WS 458 (by decide +kernel) (by decide +kernel)
theorem w459 : Cond.instanceMethod yX9_readModulus ∈ WS := in_WS 459 (by decide +kernel) (by decide +kernel)
theorem w460 : Cond.selects "SplitTowers" yX9_readModulus yX9_readModulus ∈ WS := in_WS 460 (by decide +kernel) (by decide +kernel)
theorem w461 : Cond.code yX9_readModulus prog_1_method_3_code 3 (Option.some Jvm.ClassFile.FieldType.int) ∈ WS := in_WS 461 (by decide +kernel) (by decide +kernel)
theorem w462 : Cond.methodLink "SplitTowers" 102 yX8_polynomialFault ∈ WS := in_WS 462 (by decide +kernel) (by decide +kernel)
theorem w463 : Cond.instanceMethod yX8_polynomialFault ∈ WS := in_WS 463 (by decide +kernel) (by decide +kernel)
theorem w464 : Cond.selects "SplitTowers$Text" yX8_polynomialFault yX8_polynomialFault ∈ WS := in_WS 464 (by decide +kernel) (by decide +kernel)
theorem w465 : Cond.code yX8_polynomialFault prog_10_method_6_code 5 (Option.some Jvm.ClassFile.FieldType.int) ∈ WS := in_WS 465 (by decide +kernel) (by decide +kernel)
theorem w466 : Cond.methodLink "SplitTowers$Text" 25 yX8_isDigit ∈ WS := in_WS 466 (by decide +kernel) (by decide +kernel)
theorem w467 : Cond.static yX8_isDigit ∈ WS := in_WS 467 (by decide +kernel) (by decide +kernel)
theorem w468 : Cond.code yX8_isDigit prog_10_method_4_code 1 (Option.some Jvm.ClassFile.FieldType.boolean) ∈ WS := in_WS 468 (by decide +kernel) (by decide +kernel)
theorem w469 : Cond.methodLink "SplitTowers$Text" 29 Lib.Math.max.name ∈ WS := in_WS 469 (by decide +kernel) (by decide +kernel)
theorem w470 : Cond.methodLink "SplitTowers$Text" 35 yX8_tell ∈ WS := in_WS 470 (by decide +kernel) (by decide +kernel)
theorem w472 : Cond.instanceMethod yX8_tell ∈ WS := in_WS 472 (by decide +kernel) (by decide +kernel)
theorem w473 : Cond.code yX8_tell prog_10_method_10_code 2 (Option.none : Option Jvm.ClassFile.FieldType) ∈ WS := in_WS 473 (by decide +kernel) (by decide +kernel)
theorem w474 : Cond.methodLink "SplitTowers" 106 yX9_isModulusTold ∈ WS := in_WS 474 (by decide +kernel) (by decide +kernel)
theorem w476 : Cond.instanceMethod yX9_isModulusTold ∈ WS := in_WS 476 (by decide +kernel) (by decide +kernel)
theorem w477 : Cond.code yX9_isModulusTold prog_1_method_32_code 2 (Option.some Jvm.ClassFile.FieldType.boolean) ∈ WS := in_WS 477 (by decide +kernel) (by decide +kernel)
theorem w478 : Cond.methodLink "SplitTowers" 110 yX8_copyPolynomial ∈ WS := in_WS 478 (by decide +kernel) (by decide +kernel)
theorem w479 : Cond.instanceMethod yX8_copyPolynomial ∈ WS := in_WS 479 (by decide +kernel) (by decide +kernel)
theorem w480 : Cond.selects "SplitTowers$Text" yX8_copyPolynomial yX8_copyPolynomial ∈ WS := in_WS 480 (by decide +kernel) (by decide +kernel)
theorem w481 : Cond.code yX8_copyPolynomial prog_10_method_7_code 3 (Option.none : Option Jvm.ClassFile.FieldType) ∈ WS := in_WS 481 (by decide +kernel) (by decide +kernel)
theorem w482 : Cond.methodLink "SplitTowers$Text" 39 yX4_clear ∈ WS := in_WS 482 (by decide +kernel) (by decide +kernel)
theorem w483 : Cond.methodLink "SplitTowers$Text" 44 yX4_set ∈ WS := in_WS 483 (by decide +kernel) (by decide +kernel)
theorem w484 : Cond.methodLink "SplitTowers" 114 yX2_hasSquare ∈ WS := in_WS 484 (by decide +kernel) (by decide +kernel)
theorem w485 : Cond.instanceMethod yX2_hasSquare ∈ WS := in_WS 485 (by decide +kernel) (by decide +kernel)
theorem w486 : Cond.selects "SplitTowers$Field" yX2_hasSquare yX2_hasSquare ∈ WS := in_WS 486 (by decide +kernel) (by decide +kernel)
theorem w487 : Cond.code yX2_hasSquare prog_4_method_10_code 3 (Option.some Jvm.ClassFile.FieldType.boolean) ∈ WS := in_WS 487 (by decide +kernel) (by decide +kernel)
theorem w488 : Cond.methodLink "SplitTowers$Field" 52 yX4_clear ∈ WS := in_WS 488 (by decide +kernel) (by decide +kernel)
theorem w489 : Cond.methodLink "SplitTowers$Field" 58 yX4_at ∈ WS := in_WS 489 (by decide +kernel) (by decide +kernel)
theorem w490 : Cond.instanceMethod yX4_at ∈ WS := in_WS 490 (by decide +kernel) (by decide +kernel)
theorem w491 : Cond.selects "SplitTowers$Poly" yX4_at yX4_at ∈ WS := in_WS 491 (by decide +kernel) (by decide +kernel)
theorem w492 : Cond.code yX4_at prog_6_method_2_code 2 (Option.some Jvm.ClassFile.FieldType.int) ∈ WS := in_WS 492 (by decide +kernel) (by decide +kernel)
theorem w493 : Cond.methodLink "SplitTowers$Field" 44 yX7_reduced ∈ WS := in_WS 493 (by decide +kernel) (by decide +kernel)
theorem w494 : Cond.instanceMethod yX7_reduced ∈ WS := in_WS 494 (by decide +kernel) (by decide +kernel)
theorem w495 : Cond.selects "SplitTowers$State" yX7_reduced yX7_reduced ∈ WS := in_WS 495 (by decide +kernel) (by decide +kernel)
theorem w496 : Cond.code yX7_reduced prog_9_method_5_code 3 (Option.some Jvm.ClassFile.FieldType.int) ∈ WS := in_WS 496 (by decide +kernel) (by decide +kernel)
theorem w497 : Cond.methodLink "SplitTowers$Field" 68 yX4_set ∈ WS := in_WS 497 (by decide +kernel) (by decide +kernel)
theorem w498 : Cond.methodLink "SplitTowers$Field" 87 yX2_commonFactor ∈ WS := in_WS 498 (by decide +kernel) (by decide +kernel)
theorem w499 : Cond.instanceMethod yX2_commonFactor ∈ WS := in_WS 499 (by decide +kernel) (by decide +kernel)
theorem w500 : Cond.selects "SplitTowers$Field" yX2_commonFactor yX2_commonFactor ∈ WS := in_WS 500 (by decide +kernel) (by decide +kernel)
theorem w501 : Cond.code yX2_commonFactor prog_4_method_8_code 8 (Option.none : Option Jvm.ClassFile.FieldType) ∈ WS := in_WS 501 (by decide +kernel) (by decide +kernel)
theorem w502 : Cond.methodLink "SplitTowers$Field" 61 yX4_copy ∈ WS := in_WS 502 (by decide +kernel) (by decide +kernel)
theorem w503 : Cond.methodLink "SplitTowers$Field" 72 yX2_divide ∈ WS := in_WS 503 (by decide +kernel) (by decide +kernel)
theorem w504 : Cond.instanceMethod yX2_divide ∈ WS := in_WS 504 (by decide +kernel) (by decide +kernel)
theorem w505 : Cond.selects "SplitTowers$Field" yX2_divide yX2_divide ∈ WS := in_WS 505 (by decide +kernel) (by decide +kernel)
theorem w506 : Cond.code yX2_divide prog_4_method_5_code 7 (Option.none : Option Jvm.ClassFile.FieldType) ∈ WS := in_WS 506 (by decide +kernel) (by decide +kernel)
theorem w507 : Cond.methodLink "SplitTowers$Field" 65 yX2_inverseOf ∈ WS := in_WS 507 (by decide +kernel) (by decide +kernel)
theorem w508 : Cond.instanceMethod yX2_inverseOf ∈ WS := in_WS 508 (by decide +kernel) (by decide +kernel)
theorem w509 : Cond.selects "SplitTowers$Field" yX2_inverseOf yX2_inverseOf ∈ WS := in_WS 509 (by decide +kernel) (by decide +kernel)
theorem w510 : Cond.code yX2_inverseOf prog_4_method_2_code 3 (Option.some Jvm.ClassFile.FieldType.int) ∈ WS := in_WS 510 (by decide +kernel) (by decide +kernel)
theorem w511 : Cond.methodLink "SplitTowers$Field" 48 yX4_addMultiple ∈ WS := in_WS 511 (by decide +kernel) (by decide +kernel)
theorem w512 : Cond.instanceMethod yX4_addMultiple ∈ WS := in_WS 512 (by decide +kernel) (by decide +kernel)
theorem w513 : Cond.selects "SplitTowers$Poly" yX4_addMultiple yX4_addMultiple ∈ WS := in_WS 513 (by decide +kernel) (by decide +kernel)
theorem w514 : Cond.code yX4_addMultiple prog_6_method_8_code 8 (Option.none : Option Jvm.ClassFile.FieldType) ∈ WS := in_WS 514 (by decide +kernel) (by decide +kernel)
theorem w515 : Cond.methodLink "SplitTowers$Field" 76 yX2_scale ∈ WS := in_WS 515 (by decide +kernel) (by decide +kernel)
theorem w516 : Cond.instanceMethod yX2_scale ∈ WS := in_WS 516 (by decide +kernel) (by decide +kernel)
theorem w517 : Cond.selects "SplitTowers$Field" yX2_scale yX2_scale ∈ WS := in_WS 517 (by decide +kernel) (by decide +kernel)
theorem w518 : Cond.code yX2_scale prog_4_method_3_code 3 (Option.none : Option Jvm.ClassFile.FieldType) ∈ WS := in_WS 518 (by decide +kernel) (by decide +kernel)
theorem w519 : Cond.methodLink "SplitTowers" 121 yX4_sameAs ∈ WS := in_WS 519 (by decide +kernel) (by decide +kernel)
theorem w520 : Cond.instanceMethod yX4_sameAs ∈ WS := in_WS 520 (by decide +kernel) (by decide +kernel)
theorem w521 : Cond.selects "SplitTowers$Poly" yX4_sameAs yX4_sameAs ∈ WS := in_WS 521 (by decide +kernel) (by decide +kernel)
theorem w522 : Cond.code yX4_sameAs prog_6_method_10_code 3 (Option.some Jvm.ClassFile.FieldType.boolean) ∈ WS := in_WS 522 (by decide +kernel) (by decide +kernel)
theorem w523 : Cond.methodLink "SplitTowers" 124 yX7_takeModulus ∈ WS := in_WS 523 (by decide +kernel) (by decide +kernel)
theorem w524 : Cond.instanceMethod yX7_takeModulus ∈ WS := in_WS 524 (by decide +kernel) (by decide +kernel)
theorem w525 : Cond.selects "SplitTowers$State" yX7_takeModulus yX7_takeModulus ∈ WS := in_WS 525 (by decide +kernel) (by decide +kernel)
theorem w526 : Cond.code yX7_takeModulus prog_9_method_3_code 2 (Option.none : Option Jvm.ClassFile.FieldType) ∈ WS := in_WS 526 (by decide +kernel) (by decide +kernel)
theorem w527 : Cond.methodLink "SplitTowers" 131 yX2_reduce ∈ WS := in_WS 527 (by decide +kernel) (by decide +kernel)
theorem w528 : Cond.instanceMethod yX2_reduce ∈ WS := in_WS 528 (by decide +kernel) (by decide +kernel)
theorem w529 : Cond.selects "SplitTowers$Field" yX2_reduce yX2_reduce ∈ WS := in_WS 529 (by decide +kernel) (by decide +kernel)
theorem w530 : Cond.code yX2_reduce prog_4_method_6_code 3 (Option.none : Option Jvm.ClassFile.FieldType) ∈ WS := in_WS 530 (by decide +kernel) (by decide +kernel)
theorem w531 : Cond.methodLink "SplitTowersLaw" 23 yX9_setNumber ∈ WS := in_WS 531 (by decide +kernel) (by decide +kernel)
theorem w532 : Cond.instanceMethod yX9_setNumber ∈ WS := in_WS 532 (by decide +kernel) (by decide +kernel)
theorem w533 : Cond.selects "SplitTowers" yX9_setNumber yX9_setNumber ∈ WS := in_WS 533 (by decide +kernel) (by decide +kernel)
theorem w534 : Cond.code yX9_setNumber prog_1_method_4_code 5 (Option.some Jvm.ClassFile.FieldType.int) ∈ WS := in_WS 534 (by decide +kernel) (by decide +kernel)
theorem w535 : Cond.methodLink "SplitTowers" 138 yX9_isRegister ∈ WS := in_WS 535 (by decide +kernel) (by decide +kernel)
theorem w536 : Cond.static yX9_isRegister ∈ WS := in_WS 536 (by decide +kernel) (by decide +kernel)
theorem w537 : Cond.code yX9_isRegister prog_1_method_29_code 1 (Option.some Jvm.ClassFile.FieldType.boolean) ∈ WS := in_WS 537 (by decide +kernel) (by decide +kernel)
theorem w538 : Cond.methodLink "SplitTowers" 141 yX9_isPlace ∈ WS := in_WS 538 (by decide +kernel) (by decide +kernel)
theorem w540 : Cond.instanceMethod yX9_isPlace ∈ WS := in_WS 540 (by decide +kernel) (by decide +kernel)
theorem w541 : Cond.code yX9_isPlace prog_1_method_31_code 2 (Option.some Jvm.ClassFile.FieldType.boolean) ∈ WS := in_WS 541 (by decide +kernel) (by decide +kernel)
theorem w542 : Cond.methodLink "SplitTowers" 144 yX4_at ∈ WS := in_WS 542 (by decide +kernel) (by decide +kernel)
theorem w543 : Cond.methodLink "SplitTowers" 148 yX4_set ∈ WS := in_WS 543 (by decide +kernel) (by decide +kernel)
theorem w544 : Cond.methodLink "SplitTowersLaw" 28 yX9_assign ∈ WS := in_WS 544 (by decide +kernel) (by decide +kernel)
theorem w545 : Cond.instanceMethod yX9_assign ∈ WS := in_WS 545 (by decide +kernel) (by decide +kernel)
theorem w546 : Cond.selects "SplitTowers" yX9_assign yX9_assign ∈ WS := in_WS 546 (by decide +kernel) (by decide +kernel)
theorem w547 : Cond.code yX9_assign prog_1_method_5_code 3 (Option.some Jvm.ClassFile.FieldType.int) ∈ WS := in_WS 547 (by decide +kernel) (by decide +kernel)
theorem w548 : Cond.methodLink "SplitTowers" 152 yX8_assignmentFault ∈ WS := in_WS 548 (by decide +kernel) (by decide +kernel)
theorem w549 : Cond.instanceMethod yX8_assignmentFault ∈ WS := in_WS 549 (by decide +kernel) (by decide +kernel)
theorem w550 : Cond.selects "SplitTowers$Text" yX8_assignmentFault yX8_assignmentFault ∈ WS := in_WS 550 (by decide +kernel) (by decide +kernel)
theorem w551 : Cond.code yX8_assignmentFault prog_10_method_8_code 5 (Option.some Jvm.ClassFile.FieldType.int) ∈ WS := in_WS 551 (by decide +kernel) (by decide +kernel)
theorem w552 : Cond.methodLink "SplitTowers$Text" 48 yX8_at ∈ WS := in_WS 552 (by decide +kernel) (by decide +kernel)
theorem w553 : Cond.instanceMethod yX8_at ∈ WS := in_WS 553 (by decide +kernel) (by decide +kernel)
theorem w554 : Cond.selects "SplitTowers$Text" yX8_at yX8_at ∈ WS := in_WS 554 (by decide +kernel) (by decide +kernel)
theorem w555 : Cond.code yX8_at prog_10_method_3_code 2 (Option.some Jvm.ClassFile.FieldType.int) ∈ WS := in_WS 555 (by decide +kernel) (by decide +kernel)
theorem w556 : Cond.methodLink "SplitTowers$Text" 52 yX8_isRegisterLetter ∈ WS := in_WS 556 (by decide +kernel) (by decide +kernel)
theorem w557 : Cond.static yX8_isRegisterLetter ∈ WS := in_WS 557 (by decide +kernel) (by decide +kernel)
theorem w558 : Cond.code yX8_isRegisterLetter prog_10_method_5_code 1 (Option.some Jvm.ClassFile.FieldType.boolean) ∈ WS := in_WS 558 (by decide +kernel) (by decide +kernel)
theorem w559 : Cond.methodLink "SplitTowers$Text" 55 yX8_expectedBehind ∈ WS := in_WS 559 (by decide +kernel) (by decide +kernel)
theorem w560 : Cond.static yX8_expectedBehind ∈ WS := in_WS 560 (by decide +kernel) (by decide +kernel)
theorem w561 : Cond.code yX8_expectedBehind prog_10_method_9_code 3 (Option.some Jvm.ClassFile.FieldType.int) ∈ WS := in_WS 561 (by decide +kernel) (by decide +kernel)
theorem w562 : Cond.methodLink "SplitTowers" 155 yX8_at ∈ WS := in_WS 562 (by decide +kernel) (by decide +kernel)
theorem w563 : Cond.methodLink "SplitTowers" 156 yX5_reckon ∈ WS := in_WS 563 (by decide +kernel) (by decide +kernel)
theorem w564 : Cond.instanceMethod yX5_reckon ∈ WS := in_WS 564 (by decide +kernel) (by decide +kernel)
theorem w565 : Cond.selects "SplitTowers$Reckoner" yX5_reckon yX5_reckon ∈ WS := in_WS 565 (by decide +kernel) (by decide +kernel)
theorem w566 : Cond.code yX5_reckon prog_7_method_2_code 4 (Option.none : Option Jvm.ClassFile.FieldType) ∈ WS := in_WS 566 (by decide +kernel) (by decide +kernel)
theorem w567 : Cond.methodLink "SplitTowers$Reckoner" 52 yX5_startSum ∈ WS := in_WS 567 (by decide +kernel) (by decide +kernel)
theorem w569 : Cond.instanceMethod yX5_startSum ∈ WS := in_WS 569 (by decide +kernel) (by decide +kernel)
theorem w570 : Cond.code yX5_startSum prog_7_method_3_code 1 (Option.none : Option Jvm.ClassFile.FieldType) ∈ WS := in_WS 570 (by decide +kernel) (by decide +kernel)
theorem w571 : Cond.methodLink "SplitTowers$Reckoner" 85 yX4_clear ∈ WS := in_WS 571 (by decide +kernel) (by decide +kernel)
theorem w572 : Cond.methodLink "SplitTowers$Reckoner" 88 yX5_startProduct ∈ WS := in_WS 572 (by decide +kernel) (by decide +kernel)
theorem w574 : Cond.instanceMethod yX5_startProduct ∈ WS := in_WS 574 (by decide +kernel) (by decide +kernel)
theorem w575 : Cond.code yX5_startProduct prog_7_method_4_code 1 (Option.none : Option Jvm.ClassFile.FieldType) ∈ WS := in_WS 575 (by decide +kernel) (by decide +kernel)
theorem w576 : Cond.methodLink "SplitTowers$Reckoner" 91 yX4_becomeConstant ∈ WS := in_WS 576 (by decide +kernel) (by decide +kernel)
theorem w577 : Cond.instanceMethod yX4_becomeConstant ∈ WS := in_WS 577 (by decide +kernel) (by decide +kernel)
theorem w578 : Cond.selects "SplitTowers$Poly" yX4_becomeConstant yX4_becomeConstant ∈ WS := in_WS 578 (by decide +kernel) (by decide +kernel)
theorem w579 : Cond.code yX4_becomeConstant prog_6_method_5_code 2 (Option.none : Option Jvm.ClassFile.FieldType) ∈ WS := in_WS 579 (by decide +kernel) (by decide +kernel)
theorem w580 : Cond.methodLink "SplitTowers$Reckoner" 58 yX8_at ∈ WS := in_WS 580 (by decide +kernel) (by decide +kernel)
theorem w581 : Cond.methodLink "SplitTowers$Reckoner" 62 Lib.Math.min.name ∈ WS := in_WS 581 (by decide +kernel) (by decide +kernel)
theorem w582 : Cond.methodLink "SplitTowers$Reckoner" 68 yX5_endFactor ∈ WS := in_WS 582 (by decide +kernel) (by decide +kernel)
theorem w584 : Cond.instanceMethod yX5_endFactor ∈ WS := in_WS 584 (by decide +kernel) (by decide +kernel)
theorem w585 : Cond.code yX5_endFactor prog_7_method_5_code 2 (Option.none : Option Jvm.ClassFile.FieldType) ∈ WS := in_WS 585 (by decide +kernel) (by decide +kernel)
theorem w586 : Cond.methodLink "SplitTowers$Reckoner" 95 yX0_partBy ∈ WS := in_WS 586 (by decide +kernel) (by decide +kernel)
theorem w587 : Cond.instanceMethod yX0_partBy ∈ WS := in_WS 587 (by decide +kernel) (by decide +kernel)
theorem w588 : Cond.selects "SplitTowers$Branching" yX0_partBy yX0_partBy ∈ WS := in_WS 588 (by decide +kernel) (by decide +kernel)
theorem w589 : Cond.code yX0_partBy prog_2_method_5_code 5 (Option.none : Option Jvm.ClassFile.FieldType) ∈ WS := in_WS 589 (by decide +kernel) (by decide +kernel)
theorem w590 : Cond.methodLink "SplitTowers$Branching" 35 yX2_commonFactor ∈ WS := in_WS 590 (by decide +kernel) (by decide +kernel)
theorem w591 : Cond.methodLink "SplitTowers$Branching" 73 yX2_divideWhole ∈ WS := in_WS 591 (by decide +kernel) (by decide +kernel)
theorem w592 : Cond.instanceMethod yX2_divideWhole ∈ WS := in_WS 592 (by decide +kernel) (by decide +kernel)
theorem w593 : Cond.selects "SplitTowers$Field" yX2_divideWhole yX2_divideWhole ∈ WS := in_WS 593 (by decide +kernel) (by decide +kernel)
theorem w594 : Cond.code yX2_divideWhole prog_4_method_7_code 4 (Option.none : Option Jvm.ClassFile.FieldType) ∈ WS := in_WS 594 (by decide +kernel) (by decide +kernel)
theorem w595 : Cond.methodLink "SplitTowers$Branching" 58 yX4_copy ∈ WS := in_WS 595 (by decide +kernel) (by decide +kernel)
theorem w596 : Cond.methodLink "SplitTowers$Branching" 76 yX7_addBranch ∈ WS := in_WS 596 (by decide +kernel) (by decide +kernel)
theorem w597 : Cond.methodLink "SplitTowers$Branching" 79 yX7_sortBranches ∈ WS := in_WS 597 (by decide +kernel) (by decide +kernel)
theorem w598 : Cond.instanceMethod yX7_sortBranches ∈ WS := in_WS 598 (by decide +kernel) (by decide +kernel)
theorem w599 : Cond.selects "SplitTowers$State" yX7_sortBranches yX7_sortBranches ∈ WS := in_WS 599 (by decide +kernel) (by decide +kernel)
theorem w600 : Cond.code yX7_sortBranches prog_9_method_7_code 5 (Option.none : Option Jvm.ClassFile.FieldType) ∈ WS := in_WS 600 (by decide +kernel) (by decide +kernel)
theorem w601 : Cond.methodLink "SplitTowers$State" 49 yX4_comesBefore ∈ WS := in_WS 601 (by decide +kernel) (by decide +kernel)
theorem w602 : Cond.instanceMethod yX4_comesBefore ∈ WS := in_WS 602 (by decide +kernel) (by decide +kernel)
theorem w603 : Cond.selects "SplitTowers$Poly" yX4_comesBefore yX4_comesBefore ∈ WS := in_WS 603 (by decide +kernel) (by decide +kernel)
theorem w604 : Cond.code yX4_comesBefore prog_6_method_11_code 3 (Option.some Jvm.ClassFile.FieldType.boolean) ∈ WS := in_WS 604 (by decide +kernel) (by decide +kernel)
theorem w605 : Cond.methodLink "SplitTowers$Reckoner" 100 yX6_divide ∈ WS := in_WS 605 (by decide +kernel) (by decide +kernel)
theorem w606 : Cond.instanceMethod yX6_divide ∈ WS := in_WS 606 (by decide +kernel) (by decide +kernel)
theorem w607 : Cond.selects "SplitTowers$Ring" yX6_divide yX6_divide ∈ WS := in_WS 607 (by decide +kernel) (by decide +kernel)
theorem w608 : Cond.code yX6_divide prog_8_method_6_code 4 (Option.none : Option Jvm.ClassFile.FieldType) ∈ WS := in_WS 608 (by decide +kernel) (by decide +kernel)
theorem w609 : Cond.methodLink "SplitTowers$Ring" 92 yX2_commonFactor ∈ WS := in_WS 609 (by decide +kernel) (by decide +kernel)
theorem w610 : Cond.methodLink "SplitTowers$Ring" 95 yX2_divideWhole ∈ WS := in_WS 610 (by decide +kernel) (by decide +kernel)
theorem w611 : Cond.methodLink "SplitTowers$Ring" 76 yX2_multiply ∈ WS := in_WS 611 (by decide +kernel) (by decide +kernel)
theorem w612 : Cond.instanceMethod yX2_multiply ∈ WS := in_WS 612 (by decide +kernel) (by decide +kernel)
theorem w613 : Cond.selects "SplitTowers$Field" yX2_multiply yX2_multiply ∈ WS := in_WS 613 (by decide +kernel) (by decide +kernel)
theorem w614 : Cond.code yX2_multiply prog_4_method_4_code 5 (Option.none : Option Jvm.ClassFile.FieldType) ∈ WS := in_WS 614 (by decide +kernel) (by decide +kernel)
theorem w615 : Cond.methodLink "SplitTowers$Ring" 62 yX2_reduce ∈ WS := in_WS 615 (by decide +kernel) (by decide +kernel)
theorem w616 : Cond.methodLink "SplitTowers$Ring" 98 yX2_invert ∈ WS := in_WS 616 (by decide +kernel) (by decide +kernel)
theorem w617 : Cond.instanceMethod yX2_invert ∈ WS := in_WS 617 (by decide +kernel) (by decide +kernel)
theorem w618 : Cond.selects "SplitTowers$Field" yX2_invert yX2_invert ∈ WS := in_WS 618 (by decide +kernel) (by decide +kernel)
theorem w619 : Cond.code yX2_invert prog_4_method_9_code 11 (Option.none : Option Jvm.ClassFile.FieldType) ∈ WS := in_WS 619 (by decide +kernel) (by decide +kernel)
theorem w620 : Cond.methodLink "SplitTowers$Field" 80 yX4_becomeConstant ∈ WS := in_WS 620 (by decide +kernel) (by decide +kernel)
theorem w621 : Cond.methodLink "SplitTowers$Field" 84 yX2_multiply ∈ WS := in_WS 621 (by decide +kernel) (by decide +kernel)
theorem w622 : Cond.methodLink "SplitTowers$Ring" 91 yX6_multiply ∈ WS := in_WS 622 (by decide +kernel) (by decide +kernel)
theorem w623 : Cond.instanceMethod yX6_multiply ∈ WS := in_WS 623 (by decide +kernel) (by decide +kernel)
theorem w624 : Cond.selects "SplitTowers$Ring" yX6_multiply yX6_multiply ∈ WS := in_WS 624 (by decide +kernel) (by decide +kernel)
theorem w625 : Cond.code yX6_multiply prog_8_method_4_code 4 (Option.none : Option Jvm.ClassFile.FieldType) ∈ WS := in_WS 625 (by decide +kernel) (by decide +kernel)
theorem w626 : Cond.methodLink "SplitTowers$Ring" 80 yX2_divide ∈ WS := in_WS 626 (by decide +kernel) (by decide +kernel)
theorem w627 : Cond.methodLink "SplitTowers$Reckoner" 106 yX6_multiply ∈ WS := in_WS 627 (by decide +kernel) (by decide +kernel)
theorem w628 : Cond.methodLink "SplitTowers$Reckoner" 71 yX5_endProduct ∈ WS := in_WS 628 (by decide +kernel) (by decide +kernel)
theorem w630 : Cond.instanceMethod yX5_endProduct ∈ WS := in_WS 630 (by decide +kernel) (by decide +kernel)
theorem w631 : Cond.code yX5_endProduct prog_7_method_6_code 1 (Option.none : Option Jvm.ClassFile.FieldType) ∈ WS := in_WS 631 (by decide +kernel) (by decide +kernel)
theorem w632 : Cond.methodLink "SplitTowers$Reckoner" 109 yX6_add ∈ WS := in_WS 632 (by decide +kernel) (by decide +kernel)
theorem w633 : Cond.instanceMethod yX6_add ∈ WS := in_WS 633 (by decide +kernel) (by decide +kernel)
theorem w634 : Cond.selects "SplitTowers$Ring" yX6_add yX6_add ∈ WS := in_WS 634 (by decide +kernel) (by decide +kernel)
theorem w635 : Cond.code yX6_add prog_8_method_3_code 4 (Option.none : Option Jvm.ClassFile.FieldType) ∈ WS := in_WS 635 (by decide +kernel) (by decide +kernel)
theorem w636 : Cond.methodLink "SplitTowers$Ring" 72 yX4_addMultiple ∈ WS := in_WS 636 (by decide +kernel) (by decide +kernel)
theorem w637 : Cond.methodLink "SplitTowers$Reckoner" 74 yX4_copy ∈ WS := in_WS 637 (by decide +kernel) (by decide +kernel)
theorem w638 : Cond.methodLink "SplitTowers$Reckoner" 78 Lib.Math.max.name ∈ WS := in_WS 638 (by decide +kernel) (by decide +kernel)
theorem w639 : Cond.methodLink "SplitTowers$Reckoner" 81 yX5_takeSimpleOrExponent ∈ WS := in_WS 639 (by decide +kernel) (by decide +kernel)
theorem w641 : Cond.instanceMethod yX5_takeSimpleOrExponent ∈ WS := in_WS 641 (by decide +kernel) (by decide +kernel)
theorem w642 : Cond.code yX5_takeSimpleOrExponent prog_7_method_7_code 3 (Option.none : Option Jvm.ClassFile.FieldType) ∈ WS := in_WS 642 (by decide +kernel) (by decide +kernel)
theorem w643 : Cond.methodLink "SplitTowers$Reckoner" 113 yX6_raise ∈ WS := in_WS 643 (by decide +kernel) (by decide +kernel)
theorem w644 : Cond.instanceMethod yX6_raise ∈ WS := in_WS 644 (by decide +kernel) (by decide +kernel)
theorem w645 : Cond.selects "SplitTowers$Ring" yX6_raise yX6_raise ∈ WS := in_WS 645 (by decide +kernel) (by decide +kernel)
theorem w646 : Cond.code yX6_raise prog_8_method_5_code 5 (Option.none : Option Jvm.ClassFile.FieldType) ∈ WS := in_WS 646 (by decide +kernel) (by decide +kernel)
theorem w647 : Cond.methodLink "SplitTowers$Ring" 83 yX4_copy ∈ WS := in_WS 647 (by decide +kernel) (by decide +kernel)
theorem w648 : Cond.methodLink "SplitTowers$Ring" 87 yX4_becomeConstant ∈ WS := in_WS 648 (by decide +kernel) (by decide +kernel)
theorem w649 : Cond.methodLink "SplitTowers$Reckoner" 117 yX6_becomeVariable ∈ WS := in_WS 649 (by decide +kernel) (by decide +kernel)
theorem w650 : Cond.instanceMethod yX6_becomeVariable ∈ WS := in_WS 650 (by decide +kernel) (by decide +kernel)
theorem w651 : Cond.selects "SplitTowers$Ring" yX6_becomeVariable yX6_becomeVariable ∈ WS := in_WS 651 (by decide +kernel) (by decide +kernel)
theorem w652 : Cond.code yX6_becomeVariable prog_8_method_2_code 2 (Option.none : Option Jvm.ClassFile.FieldType) ∈ WS := in_WS 652 (by decide +kernel) (by decide +kernel)
theorem w653 : Cond.methodLink "SplitTowers$Ring" 54 yX4_becomeVariable ∈ WS := in_WS 653 (by decide +kernel) (by decide +kernel)
theorem w654 : Cond.methodLink "SplitTowers$Reckoner" 120 yX8_isRegisterLetter ∈ WS := in_WS 654 (by decide +kernel) (by decide +kernel)
theorem w655 : Cond.methodLink "SplitTowers$Reckoner" 129 yX7_reduced ∈ WS := in_WS 655 (by decide +kernel) (by decide +kernel)
theorem w656 : Cond.methodLink "SplitTowersLaw" 32 yX9_put ∈ WS := in_WS 656 (by decide +kernel) (by decide +kernel)
theorem w657 : Cond.instanceMethod yX9_put ∈ WS := in_WS 657 (by decide +kernel) (by decide +kernel)
theorem w658 : Cond.selects "SplitTowers" yX9_put yX9_put ∈ WS := in_WS 658 (by decide +kernel) (by decide +kernel)
theorem w659 : Cond.code yX9_put prog_1_method_6_code 6 (Option.some Jvm.ClassFile.FieldType.int) ∈ WS := in_WS 659 (by decide +kernel) (by decide +kernel)
theorem w660 : Cond.methodLink "SplitTowers" 162 yX9_isBranch ∈ WS := in_WS 660 (by decide +kernel) (by decide +kernel)
theorem w662 : Cond.instanceMethod yX9_isBranch ∈ WS := in_WS 662 (by decide +kernel) (by decide +kernel)
theorem w663 : Cond.code yX9_isBranch prog_1_method_30_code 2 (Option.some Jvm.ClassFile.FieldType.boolean) ∈ WS := in_WS 663 (by decide +kernel) (by decide +kernel)
theorem w664 : Cond.methodLink "SplitTowers" 168 yX6_putTogether ∈ WS := in_WS 664 (by decide +kernel) (by decide +kernel)
theorem w665 : Cond.instanceMethod yX6_putTogether ∈ WS := in_WS 665 (by decide +kernel) (by decide +kernel)
theorem w666 : Cond.selects "SplitTowers$Ring" yX6_putTogether yX6_putTogether ∈ WS := in_WS 666 (by decide +kernel) (by decide +kernel)
theorem w667 : Cond.code yX6_putTogether prog_8_method_8_code 5 (Option.none : Option Jvm.ClassFile.FieldType) ∈ WS := in_WS 667 (by decide +kernel) (by decide +kernel)
theorem w668 : Cond.methodLink "SplitTowers$Ring" 102 yX6_add ∈ WS := in_WS 668 (by decide +kernel) (by decide +kernel)
theorem w669 : Cond.methodLink "SplitTowers$Ring" 106 yX6_unitOf ∈ WS := in_WS 669 (by decide +kernel) (by decide +kernel)
theorem w670 : Cond.instanceMethod yX6_unitOf ∈ WS := in_WS 670 (by decide +kernel) (by decide +kernel)
theorem w671 : Cond.selects "SplitTowers$Ring" yX6_unitOf yX6_unitOf ∈ WS := in_WS 671 (by decide +kernel) (by decide +kernel)
theorem w672 : Cond.code yX6_unitOf prog_8_method_7_code 3 (Option.none : Option Jvm.ClassFile.FieldType) ∈ WS := in_WS 672 (by decide +kernel) (by decide +kernel)
theorem w673 : Cond.methodLink "SplitTowers$Ring" 101 yX6_divide ∈ WS := in_WS 673 (by decide +kernel) (by decide +kernel)
theorem w674 : Cond.methodLink "SplitTowers" 172 yX0_countDifferent ∈ WS := in_WS 674 (by decide +kernel) (by decide +kernel)
theorem w675 : Cond.instanceMethod yX0_countDifferent ∈ WS := in_WS 675 (by decide +kernel) (by decide +kernel)
theorem w676 : Cond.selects "SplitTowers$Branching" yX0_countDifferent yX0_countDifferent ∈ WS := in_WS 676 (by decide +kernel) (by decide +kernel)
theorem w677 : Cond.code yX0_countDifferent prog_2_method_4_code 3 (Option.some Jvm.ClassFile.FieldType.int) ∈ WS := in_WS 677 (by decide +kernel) (by decide +kernel)
theorem w678 : Cond.methodLink "SplitTowers$Branching" 65 yX4_addMultiple ∈ WS := in_WS 678 (by decide +kernel) (by decide +kernel)
theorem w679 : Cond.methodLink "SplitTowers$Branching" 69 yX0_countOfKind ∈ WS := in_WS 679 (by decide +kernel) (by decide +kernel)
theorem w680 : Cond.instanceMethod yX0_countOfKind ∈ WS := in_WS 680 (by decide +kernel) (by decide +kernel)
theorem w681 : Cond.selects "SplitTowers$Branching" yX0_countOfKind yX0_countOfKind ∈ WS := in_WS 681 (by decide +kernel) (by decide +kernel)
theorem w682 : Cond.code yX0_countOfKind prog_2_method_3_code 5 (Option.some Jvm.ClassFile.FieldType.int) ∈ WS := in_WS 682 (by decide +kernel) (by decide +kernel)
theorem w683 : Cond.methodLink "SplitTowers$Branching" 54 yX0_kindIn ∈ WS := in_WS 683 (by decide +kernel) (by decide +kernel)
theorem w684 : Cond.instanceMethod yX0_kindIn ∈ WS := in_WS 684 (by decide +kernel) (by decide +kernel)
theorem w685 : Cond.selects "SplitTowers$Branching" yX0_kindIn yX0_kindIn ∈ WS := in_WS 685 (by decide +kernel) (by decide +kernel)
theorem w686 : Cond.code yX0_kindIn prog_2_method_2_code 3 (Option.some Jvm.ClassFile.FieldType.int) ∈ WS := in_WS 686 (by decide +kernel) (by decide +kernel)
theorem w687 : Cond.methodLink "SplitTowers" 176 yX4_copy ∈ WS := in_WS 687 (by decide +kernel) (by decide +kernel)
theorem w688 : Cond.methodLink "SplitTowersLaw" 36 yX9_part ∈ WS := in_WS 688 (by decide +kernel) (by decide +kernel)
theorem w689 : Cond.instanceMethod yX9_part ∈ WS := in_WS 689 (by decide +kernel) (by decide +kernel)
theorem w690 : Cond.selects "SplitTowers" yX9_part yX9_part ∈ WS := in_WS 690 (by decide +kernel) (by decide +kernel)
theorem w691 : Cond.code yX9_part prog_1_method_7_code 3 (Option.some Jvm.ClassFile.FieldType.int) ∈ WS := in_WS 691 (by decide +kernel) (by decide +kernel)
theorem w692 : Cond.methodLink "SplitTowers" 179 yX0_countOfKind ∈ WS := in_WS 692 (by decide +kernel) (by decide +kernel)
theorem w693 : Cond.methodLink "SplitTowers" 183 yX0_partBy ∈ WS := in_WS 693 (by decide +kernel) (by decide +kernel)
theorem w694 : Cond.methodLink "SplitTowersLaw" 40 yX9_partByDegrees ∈ WS := in_WS 694 (by decide +kernel) (by decide +kernel)
theorem w695 : Cond.instanceMethod yX9_partByDegrees ∈ WS := in_WS 695 (by decide +kernel) (by decide +kernel)
theorem w696 : Cond.selects "SplitTowers" yX9_partByDegrees yX9_partByDegrees ∈ WS := in_WS 696 (by decide +kernel) (by decide +kernel)
theorem w697 : Cond.code yX9_partByDegrees prog_1_method_8_code 3 (Option.some Jvm.ClassFile.FieldType.int) ∈ WS := in_WS 697 (by decide +kernel) (by decide +kernel)
theorem w698 : Cond.methodLink "SplitTowers" 186 yX1_find ∈ WS := in_WS 698 (by decide +kernel) (by decide +kernel)
theorem w699 : Cond.instanceMethod yX1_find ∈ WS := in_WS 699 (by decide +kernel) (by decide +kernel)
theorem w700 : Cond.selects "SplitTowers$Degrees" yX1_find yX1_find ∈ WS := in_WS 700 (by decide +kernel) (by decide +kernel)
theorem w701 : Cond.code yX1_find prog_3_method_2_code 2 (Option.none : Option Jvm.ClassFile.FieldType) ∈ WS := in_WS 701 (by decide +kernel) (by decide +kernel)
theorem w702 : Cond.methodLink "SplitTowers$Degrees" 48 yX4_copy ∈ WS := in_WS 702 (by decide +kernel) (by decide +kernel)
theorem w703 : Cond.methodLink "SplitTowers$Degrees" 52 yX4_becomeVariable ∈ WS := in_WS 703 (by decide +kernel) (by decide +kernel)
theorem w704 : Cond.methodLink "SplitTowers$Degrees" 55 yX6_becomeVariable ∈ WS := in_WS 704 (by decide +kernel) (by decide +kernel)
theorem w705 : Cond.methodLink "SplitTowers$Degrees" 63 yX6_raise ∈ WS := in_WS 705 (by decide +kernel) (by decide +kernel)
theorem w706 : Cond.methodLink "SplitTowers$Degrees" 67 yX6_add ∈ WS := in_WS 706 (by decide +kernel) (by decide +kernel)
theorem w707 : Cond.methodLink "SplitTowers$Degrees" 71 yX2_commonFactor ∈ WS := in_WS 707 (by decide +kernel) (by decide +kernel)
theorem w708 : Cond.methodLink "SplitTowers$Degrees" 77 yX2_divideWhole ∈ WS := in_WS 708 (by decide +kernel) (by decide +kernel)
theorem w709 : Cond.methodLink "SplitTowersLaw" 44 yX9_join ∈ WS := in_WS 709 (by decide +kernel) (by decide +kernel)
theorem w710 : Cond.instanceMethod yX9_join ∈ WS := in_WS 710 (by decide +kernel) (by decide +kernel)
theorem w711 : Cond.selects "SplitTowers" yX9_join yX9_join ∈ WS := in_WS 711 (by decide +kernel) (by decide +kernel)
theorem w712 : Cond.code yX9_join prog_1_method_9_code 3 (Option.some Jvm.ClassFile.FieldType.int) ∈ WS := in_WS 712 (by decide +kernel) (by decide +kernel)
theorem w713 : Cond.methodLink "SplitTowers" 192 yX0_joinTwo ∈ WS := in_WS 713 (by decide +kernel) (by decide +kernel)
theorem w714 : Cond.instanceMethod yX0_joinTwo ∈ WS := in_WS 714 (by decide +kernel) (by decide +kernel)
theorem w715 : Cond.selects "SplitTowers$Branching" yX0_joinTwo yX0_joinTwo ∈ WS := in_WS 715 (by decide +kernel) (by decide +kernel)
theorem w716 : Cond.code yX0_joinTwo prog_2_method_6_code 3 (Option.some Jvm.ClassFile.FieldType.int) ∈ WS := in_WS 716 (by decide +kernel) (by decide +kernel)
theorem w717 : Cond.methodLink "SplitTowers$Branching" 82 yX2_multiply ∈ WS := in_WS 717 (by decide +kernel) (by decide +kernel)
theorem w718 : Cond.methodLink "SplitTowers$Branching" 85 yX0_findBranch ∈ WS := in_WS 718 (by decide +kernel) (by decide +kernel)
theorem w720 : Cond.instanceMethod yX0_findBranch ∈ WS := in_WS 720 (by decide +kernel) (by decide +kernel)
theorem w721 : Cond.code yX0_findBranch prog_2_method_8_code 3 (Option.some Jvm.ClassFile.FieldType.int) ∈ WS := in_WS 721 (by decide +kernel) (by decide +kernel)
theorem w722 : Cond.methodLink "SplitTowers$Branching" 93 yX4_sameAs ∈ WS := in_WS 722 (by decide +kernel) (by decide +kernel)
theorem w723 : Cond.methodLink "SplitTowersLaw" 49 yX9_joinAlike ∈ WS := in_WS 723 (by decide +kernel) (by decide +kernel)
theorem w724 : Cond.instanceMethod yX9_joinAlike ∈ WS := in_WS 724 (by decide +kernel) (by decide +kernel)
theorem w725 : Cond.selects "SplitTowers" yX9_joinAlike yX9_joinAlike ∈ WS := in_WS 725 (by decide +kernel) (by decide +kernel)
theorem w726 : Cond.code yX9_joinAlike prog_1_method_10_code 3 (Option.some Jvm.ClassFile.FieldType.int) ∈ WS := in_WS 726 (by decide +kernel) (by decide +kernel)
theorem w727 : Cond.methodLink "SplitTowers" 196 yX0_joinByKind ∈ WS := in_WS 727 (by decide +kernel) (by decide +kernel)
theorem w728 : Cond.instanceMethod yX0_joinByKind ∈ WS := in_WS 728 (by decide +kernel) (by decide +kernel)
theorem w729 : Cond.selects "SplitTowers$Branching" yX0_joinByKind yX0_joinByKind ∈ WS := in_WS 729 (by decide +kernel) (by decide +kernel)
theorem w730 : Cond.code yX0_joinByKind prog_2_method_7_code 4 (Option.none : Option Jvm.ClassFile.FieldType) ∈ WS := in_WS 730 (by decide +kernel) (by decide +kernel)
theorem w731 : Cond.methodLink "SplitTowers$Branching" 89 yX4_becomeConstant ∈ WS := in_WS 731 (by decide +kernel) (by decide +kernel)
theorem w732 : Cond.methodLink "SplitTowersLaw" 53 yX9_type ∈ WS := in_WS 732 (by decide +kernel) (by decide +kernel)
theorem w733 : Cond.instanceMethod yX9_type ∈ WS := in_WS 733 (by decide +kernel) (by decide +kernel)
theorem w734 : Cond.selects "SplitTowers" yX9_type yX9_type ∈ WS := in_WS 734 (by decide +kernel) (by decide +kernel)
theorem w735 : Cond.code yX9_type prog_1_method_11_code 2 (Option.some Jvm.ClassFile.FieldType.int) ∈ WS := in_WS 735 (by decide +kernel) (by decide +kernel)
theorem w736 : Cond.methodLink "SplitTowers" 199 yX8_add ∈ WS := in_WS 736 (by decide +kernel) (by decide +kernel)
theorem w737 : Cond.instanceMethod yX8_add ∈ WS := in_WS 737 (by decide +kernel) (by decide +kernel)
theorem w738 : Cond.selects "SplitTowers$Text" yX8_add yX8_add ∈ WS := in_WS 738 (by decide +kernel) (by decide +kernel)
theorem w739 : Cond.code yX8_add prog_10_method_2_code 2 (Option.some Jvm.ClassFile.FieldType.boolean) ∈ WS := in_WS 739 (by decide +kernel) (by decide +kernel)
theorem w740 : Cond.methodLink "SplitTowersLaw" 58 yX9_clearText ∈ WS := in_WS 740 (by decide +kernel) (by decide +kernel)
theorem w741 : Cond.instanceMethod yX9_clearText ∈ WS := in_WS 741 (by decide +kernel) (by decide +kernel)
theorem w742 : Cond.selects "SplitTowers" yX9_clearText yX9_clearText ∈ WS := in_WS 742 (by decide +kernel) (by decide +kernel)
theorem w743 : Cond.code yX9_clearText prog_1_method_12_code 2 (Option.some Jvm.ClassFile.FieldType.int) ∈ WS := in_WS 743 (by decide +kernel) (by decide +kernel)
theorem w744 : Cond.methodLink "SplitTowersLaw" 62 yX9_undo ∈ WS := in_WS 744 (by decide +kernel) (by decide +kernel)
theorem w745 : Cond.instanceMethod yX9_undo ∈ WS := in_WS 745 (by decide +kernel) (by decide +kernel)
theorem w746 : Cond.selects "SplitTowers" yX9_undo yX9_undo ∈ WS := in_WS 746 (by decide +kernel) (by decide +kernel)
theorem w747 : Cond.code yX9_undo prog_1_method_13_code 1 (Option.some Jvm.ClassFile.FieldType.int) ∈ WS := in_WS 747 (by decide +kernel) (by decide +kernel)
theorem w748 : Cond.methodLink "SplitTowers" 207 yX3_takeBack ∈ WS := in_WS 748 (by decide +kernel) (by decide +kernel)
theorem w749 : Cond.instanceMethod yX3_takeBack ∈ WS := in_WS 749 (by decide +kernel) (by decide +kernel)
theorem w750 : Cond.selects "SplitTowers$History" yX3_takeBack yX3_takeBack ∈ WS := in_WS 750 (by decide +kernel) (by decide +kernel)
theorem w751 : Cond.code yX3_takeBack prog_5_method_3_code 2 (Option.none : Option Jvm.ClassFile.FieldType) ∈ WS := in_WS 751 (by decide +kernel) (by decide +kernel)
theorem w752 : Cond.methodLink "SplitTowersLaw" 66 yX9_keep ∈ WS := in_WS 752 (by decide +kernel) (by decide +kernel)
theorem w753 : Cond.instanceMethod yX9_keep ∈ WS := in_WS 753 (by decide +kernel) (by decide +kernel)
theorem w754 : Cond.selects "SplitTowers" yX9_keep yX9_keep ∈ WS := in_WS 754 (by decide +kernel) (by decide +kernel)
theorem w755 : Cond.code yX9_keep prog_1_method_14_code 1 (Option.some Jvm.ClassFile.FieldType.int) ∈ WS := in_WS 755 (by decide +kernel) (by decide +kernel)
theorem w756 : Cond.methodLink "SplitTowers" 210 yX7_copy ∈ WS := in_WS 756 (by decide +kernel) (by decide +kernel)
theorem w757 : Cond.methodLink "SplitTowersLaw" 70 yX9_restore ∈ WS := in_WS 757 (by decide +kernel) (by decide +kernel)
theorem w758 : Cond.instanceMethod yX9_restore ∈ WS := in_WS 758 (by decide +kernel) (by decide +kernel)
theorem w759 : Cond.selects "SplitTowers" yX9_restore yX9_restore ∈ WS := in_WS 759 (by decide +kernel) (by decide +kernel)
theorem w760 : Cond.code yX9_restore prog_1_method_15_code 1 (Option.some Jvm.ClassFile.FieldType.int) ∈ WS := in_WS 760 (by decide +kernel) (by decide +kernel)
theorem w761 : Cond.methodLink "SplitTowersLaw" 74 yX9_modulus ∈ WS := in_WS 761 (by decide +kernel) (by decide +kernel)
theorem w762 : Cond.instanceMethod yX9_modulus ∈ WS := in_WS 762 (by decide +kernel) (by decide +kernel)
theorem w763 : Cond.selects "SplitTowers" yX9_modulus yX9_modulus ∈ WS := in_WS 763 (by decide +kernel) (by decide +kernel)
theorem w764 : Cond.code yX9_modulus prog_1_method_16_code 2 (Option.some Jvm.ClassFile.FieldType.int) ∈ WS := in_WS 764 (by decide +kernel) (by decide +kernel)
theorem w765 : Cond.methodLink "SplitTowers" 212 yX9_coefficientTold ∈ WS := in_WS 765 (by decide +kernel) (by decide +kernel)
theorem w766 : Cond.static yX9_coefficientTold ∈ WS := in_WS 766 (by decide +kernel) (by decide +kernel)
theorem w767 : Cond.code yX9_coefficientTold prog_1_method_33_code 2 (Option.some Jvm.ClassFile.FieldType.int) ∈ WS := in_WS 767 (by decide +kernel) (by decide +kernel)
theorem w768 : Cond.methodLink "SplitTowersLaw" 78 yX9_number ∈ WS := in_WS 768 (by decide +kernel) (by decide +kernel)
theorem w769 : Cond.instanceMethod yX9_number ∈ WS := in_WS 769 (by decide +kernel) (by decide +kernel)
theorem w770 : Cond.selects "SplitTowers" yX9_number yX9_number ∈ WS := in_WS 770 (by decide +kernel) (by decide +kernel)
theorem w771 : Cond.code yX9_number prog_1_method_17_code 3 (Option.some Jvm.ClassFile.FieldType.int) ∈ WS := in_WS 771 (by decide +kernel) (by decide +kernel)
theorem w772 : Cond.methodLink "SplitTowersLaw" 82 yX9_branch ∈ WS := in_WS 772 (by decide +kernel) (by decide +kernel)
theorem w773 : Cond.instanceMethod yX9_branch ∈ WS := in_WS 773 (by decide +kernel) (by decide +kernel)
theorem w774 : Cond.selects "SplitTowers" yX9_branch yX9_branch ∈ WS := in_WS 774 (by decide +kernel) (by decide +kernel)
theorem w775 : Cond.code yX9_branch prog_1_method_18_code 3 (Option.some Jvm.ClassFile.FieldType.int) ∈ WS := in_WS 775 (by decide +kernel) (by decide +kernel)
theorem w776 : Cond.methodLink "SplitTowersLaw" 86 yX9_seen ∈ WS := in_WS 776 (by decide +kernel) (by decide +kernel)
theorem w777 : Cond.instanceMethod yX9_seen ∈ WS := in_WS 777 (by decide +kernel) (by decide +kernel)
theorem w778 : Cond.selects "SplitTowers" yX9_seen yX9_seen ∈ WS := in_WS 778 (by decide +kernel) (by decide +kernel)
theorem w779 : Cond.code yX9_seen prog_1_method_19_code 5 (Option.some Jvm.ClassFile.FieldType.int) ∈ WS := in_WS 779 (by decide +kernel) (by decide +kernel)
theorem w780 : Cond.methodLink "SplitTowersLaw" 90 yX9_kind ∈ WS := in_WS 780 (by decide +kernel) (by decide +kernel)
theorem w781 : Cond.instanceMethod yX9_kind ∈ WS := in_WS 781 (by decide +kernel) (by decide +kernel)
theorem w782 : Cond.selects "SplitTowers" yX9_kind yX9_kind ∈ WS := in_WS 782 (by decide +kernel) (by decide +kernel)
theorem w783 : Cond.code yX9_kind prog_1_method_20_code 3 (Option.some Jvm.ClassFile.FieldType.int) ∈ WS := in_WS 783 (by decide +kernel) (by decide +kernel)
theorem w784 : Cond.methodLink "SplitTowers" 215 yX0_kindIn ∈ WS := in_WS 784 (by decide +kernel) (by decide +kernel)
theorem w785 : Cond.methodLink "SplitTowersLaw" 94 yX9_unit ∈ WS := in_WS 785 (by decide +kernel) (by decide +kernel)
theorem w786 : Cond.instanceMethod yX9_unit ∈ WS := in_WS 786 (by decide +kernel) (by decide +kernel)
theorem w787 : Cond.selects "SplitTowers" yX9_unit yX9_unit ∈ WS := in_WS 787 (by decide +kernel) (by decide +kernel)
theorem w788 : Cond.code yX9_unit prog_1_method_21_code 3 (Option.some Jvm.ClassFile.FieldType.int) ∈ WS := in_WS 788 (by decide +kernel) (by decide +kernel)
theorem w789 : Cond.methodLink "SplitTowers" 218 yX6_unitOf ∈ WS := in_WS 789 (by decide +kernel) (by decide +kernel)
theorem w790 : Cond.methodLink "SplitTowersLaw" 98 yX9_power ∈ WS := in_WS 790 (by decide +kernel) (by decide +kernel)
theorem w791 : Cond.instanceMethod yX9_power ∈ WS := in_WS 791 (by decide +kernel) (by decide +kernel)
theorem w792 : Cond.selects "SplitTowers" yX9_power yX9_power ∈ WS := in_WS 792 (by decide +kernel) (by decide +kernel)
theorem w793 : Cond.code yX9_power prog_1_method_22_code 4 (Option.some Jvm.ClassFile.FieldType.int) ∈ WS := in_WS 793 (by decide +kernel) (by decide +kernel)
theorem w794 : Cond.constant "SplitTowers" 221 (1000000 : Int32) ∈ WS := in_WS 794 (by decide +kernel) (by decide +kernel)
theorem w795 : Cond.methodLink "SplitTowers" 222 yX6_raise ∈ WS := in_WS 795 (by decide +kernel) (by decide +kernel)
theorem w796 : Cond.methodLink "SplitTowersLaw" 102 yX9_leastPolynomial ∈ WS := in_WS 796 (by decide +kernel) (by decide +kernel)
theorem w797 : Cond.instanceMethod yX9_leastPolynomial ∈ WS := in_WS 797 (by decide +kernel) (by decide +kernel)
theorem w798 : Cond.selects "SplitTowers" yX9_leastPolynomial yX9_leastPolynomial ∈ WS := in_WS 798 (by decide +kernel) (by decide +kernel)
theorem w799 : Cond.code yX9_leastPolynomial prog_1_method_23_code 3 (Option.some Jvm.ClassFile.FieldType.int) ∈ WS := in_WS 799 (by decide +kernel) (by decide +kernel)
theorem w800 : Cond.methodLink "SplitTowers" 226 yX6_findLeastPolynomial ∈ WS := in_WS 800 (by decide +kernel) (by decide +kernel)
theorem w801 : Cond.instanceMethod yX6_findLeastPolynomial ∈ WS := in_WS 801 (by decide +kernel) (by decide +kernel)
theorem w802 : Cond.selects "SplitTowers$Ring" yX6_findLeastPolynomial yX6_findLeastPolynomial ∈ WS := in_WS 802 (by decide +kernel) (by decide +kernel)
theorem w803 : Cond.code yX6_findLeastPolynomial prog_8_method_10_code 5 (Option.none : Option Jvm.ClassFile.FieldType) ∈ WS := in_WS 803 (by decide +kernel) (by decide +kernel)
theorem w804 : Cond.methodLink "SplitTowers$Ring" 119 yX4_clear ∈ WS := in_WS 804 (by decide +kernel) (by decide +kernel)
theorem w805 : Cond.methodLink "SplitTowers$Ring" 122 yX4_set ∈ WS := in_WS 805 (by decide +kernel) (by decide +kernel)
theorem w806 : Cond.methodLink "SplitTowers$Ring" 126 yX6_reduceByRows ∈ WS := in_WS 806 (by decide +kernel) (by decide +kernel)
theorem w808 : Cond.instanceMethod yX6_reduceByRows ∈ WS := in_WS 808 (by decide +kernel) (by decide +kernel)
theorem w809 : Cond.code yX6_reduceByRows prog_8_method_11_code 4 (Option.none : Option Jvm.ClassFile.FieldType) ∈ WS := in_WS 809 (by decide +kernel) (by decide +kernel)
theorem w810 : Cond.methodLink "SplitTowers$Ring" 112 yX4_at ∈ WS := in_WS 810 (by decide +kernel) (by decide +kernel)
theorem w811 : Cond.methodLink "SplitTowers$Ring" 129 yX2_inverseOf ∈ WS := in_WS 811 (by decide +kernel) (by decide +kernel)
theorem w812 : Cond.methodLink "SplitTowersLaw" 106 yX9_trace ∈ WS := in_WS 812 (by decide +kernel) (by decide +kernel)
theorem w813 : Cond.instanceMethod yX9_trace ∈ WS := in_WS 813 (by decide +kernel) (by decide +kernel)
theorem w814 : Cond.selects "SplitTowers" yX9_trace yX9_trace ∈ WS := in_WS 814 (by decide +kernel) (by decide +kernel)
theorem w815 : Cond.code yX9_trace prog_1_method_24_code 2 (Option.some Jvm.ClassFile.FieldType.int) ∈ WS := in_WS 815 (by decide +kernel) (by decide +kernel)
theorem w816 : Cond.methodLink "SplitTowers" 229 yX6_traceOf ∈ WS := in_WS 816 (by decide +kernel) (by decide +kernel)
theorem w817 : Cond.instanceMethod yX6_traceOf ∈ WS := in_WS 817 (by decide +kernel) (by decide +kernel)
theorem w818 : Cond.selects "SplitTowers$Ring" yX6_traceOf yX6_traceOf ∈ WS := in_WS 818 (by decide +kernel) (by decide +kernel)
theorem w819 : Cond.code yX6_traceOf prog_8_method_9_code 4 (Option.some Jvm.ClassFile.FieldType.int) ∈ WS := in_WS 819 (by decide +kernel) (by decide +kernel)
theorem w820 : Cond.methodLink "SplitTowers$Ring" 116 yX7_reduced ∈ WS := in_WS 820 (by decide +kernel) (by decide +kernel)
theorem w821 : Cond.methodLink "SplitTowersLaw" 110 yX9_order ∈ WS := in_WS 821 (by decide +kernel) (by decide +kernel)
theorem w822 : Cond.instanceMethod yX9_order ∈ WS := in_WS 822 (by decide +kernel) (by decide +kernel)
theorem w823 : Cond.selects "SplitTowers" yX9_order yX9_order ∈ WS := in_WS 823 (by decide +kernel) (by decide +kernel)
theorem w824 : Cond.code yX9_order prog_1_method_25_code 3 (Option.some Jvm.ClassFile.FieldType.int) ∈ WS := in_WS 824 (by decide +kernel) (by decide +kernel)
theorem w825 : Cond.methodLink "SplitTowers" 233 yX1_commonExponent ∈ WS := in_WS 825 (by decide +kernel) (by decide +kernel)
theorem w826 : Cond.instanceMethod yX1_commonExponent ∈ WS := in_WS 826 (by decide +kernel) (by decide +kernel)
theorem w827 : Cond.selects "SplitTowers$Degrees" yX1_commonExponent yX1_commonExponent ∈ WS := in_WS 827 (by decide +kernel) (by decide +kernel)
theorem w828 : Cond.code yX1_commonExponent prog_3_method_5_code 4 (Option.some Jvm.ClassFile.FieldType.int) ∈ WS := in_WS 828 (by decide +kernel) (by decide +kernel)
theorem w829 : Cond.methodLink "SplitTowers$Degrees" 83 yX1_factorsOf ∈ WS := in_WS 829 (by decide +kernel) (by decide +kernel)
theorem w830 : Cond.instanceMethod yX1_factorsOf ∈ WS := in_WS 830 (by decide +kernel) (by decide +kernel)
theorem w831 : Cond.selects "SplitTowers$Degrees" yX1_factorsOf yX1_factorsOf ∈ WS := in_WS 831 (by decide +kernel) (by decide +kernel)
theorem w832 : Cond.code yX1_factorsOf prog_3_method_3_code 2 (Option.some Jvm.ClassFile.FieldType.int) ∈ WS := in_WS 832 (by decide +kernel) (by decide +kernel)
theorem w833 : Cond.methodLink "SplitTowers$Degrees" 87 yX1_leastMultiple ∈ WS := in_WS 833 (by decide +kernel) (by decide +kernel)
theorem w834 : Cond.static yX1_leastMultiple ∈ WS := in_WS 834 (by decide +kernel) (by decide +kernel)
theorem w835 : Cond.code yX1_leastMultiple prog_3_method_6_code 6 (Option.some Jvm.ClassFile.FieldType.int) ∈ WS := in_WS 835 (by decide +kernel) (by decide +kernel)
theorem w836 : Cond.methodLink "SplitTowers" 236 yX6_leastExponent ∈ WS := in_WS 836 (by decide +kernel) (by decide +kernel)
theorem w837 : Cond.instanceMethod yX6_leastExponent ∈ WS := in_WS 837 (by decide +kernel) (by decide +kernel)
theorem w838 : Cond.selects "SplitTowers$Ring" yX6_leastExponent yX6_leastExponent ∈ WS := in_WS 838 (by decide +kernel) (by decide +kernel)
theorem w839 : Cond.code yX6_leastExponent prog_8_method_12_code 8 (Option.some Jvm.ClassFile.FieldType.int) ∈ WS := in_WS 839 (by decide +kernel) (by decide +kernel)
theorem w840 : Cond.methodLink "SplitTowers$Ring" 132 yX6_raise ∈ WS := in_WS 840 (by decide +kernel) (by decide +kernel)
theorem w841 : Cond.methodLink "SplitTowers$Ring" 136 yX4_isOne ∈ WS := in_WS 841 (by decide +kernel) (by decide +kernel)
theorem w842 : Cond.instanceMethod yX4_isOne ∈ WS := in_WS 842 (by decide +kernel) (by decide +kernel)
theorem w843 : Cond.selects "SplitTowers$Poly" yX4_isOne yX4_isOne ∈ WS := in_WS 843 (by decide +kernel) (by decide +kernel)
theorem w844 : Cond.code yX4_isOne prog_6_method_9_code 1 (Option.some Jvm.ClassFile.FieldType.boolean) ∈ WS := in_WS 844 (by decide +kernel) (by decide +kernel)
theorem w845 : Cond.methodLink "SplitTowersLaw" 114 yX9_factors ∈ WS := in_WS 845 (by decide +kernel) (by decide +kernel)
theorem w846 : Cond.instanceMethod yX9_factors ∈ WS := in_WS 846 (by decide +kernel) (by decide +kernel)
theorem w847 : Cond.selects "SplitTowers" yX9_factors yX9_factors ∈ WS := in_WS 847 (by decide +kernel) (by decide +kernel)
theorem w848 : Cond.code yX9_factors prog_1_method_26_code 2 (Option.some Jvm.ClassFile.FieldType.int) ∈ WS := in_WS 848 (by decide +kernel) (by decide +kernel)
theorem w849 : Cond.methodLink "SplitTowers" 239 yX1_factorsOf ∈ WS := in_WS 849 (by decide +kernel) (by decide +kernel)
theorem w850 : Cond.methodLink "SplitTowersLaw" 118 yX9_count ∈ WS := in_WS 850 (by decide +kernel) (by decide +kernel)
theorem w851 : Cond.instanceMethod yX9_count ∈ WS := in_WS 851 (by decide +kernel) (by decide +kernel)
theorem w852 : Cond.selects "SplitTowers" yX9_count yX9_count ∈ WS := in_WS 852 (by decide +kernel) (by decide +kernel)
theorem w853 : Cond.code yX9_count prog_1_method_27_code 2 (Option.some Jvm.ClassFile.FieldType.int) ∈ WS := in_WS 853 (by decide +kernel) (by decide +kernel)
theorem w854 : Cond.methodLink "SplitTowers" 242 yX1_allFactors ∈ WS := in_WS 854 (by decide +kernel) (by decide +kernel)
theorem w855 : Cond.instanceMethod yX1_allFactors ∈ WS := in_WS 855 (by decide +kernel) (by decide +kernel)
theorem w856 : Cond.selects "SplitTowers$Degrees" yX1_allFactors yX1_allFactors ∈ WS := in_WS 856 (by decide +kernel) (by decide +kernel)
theorem w857 : Cond.code yX1_allFactors prog_3_method_4_code 3 (Option.some Jvm.ClassFile.FieldType.int) ∈ WS := in_WS 857 (by decide +kernel) (by decide +kernel)
theorem w858 : Cond.methodLink "SplitTowers" 245 yX7_greatestBranchDegree ∈ WS := in_WS 858 (by decide +kernel) (by decide +kernel)
theorem w859 : Cond.instanceMethod yX7_greatestBranchDegree ∈ WS := in_WS 859 (by decide +kernel) (by decide +kernel)
theorem w860 : Cond.selects "SplitTowers$State" yX7_greatestBranchDegree yX7_greatestBranchDegree ∈ WS := in_WS 860 (by decide +kernel) (by decide +kernel)
theorem w861 : Cond.code yX7_greatestBranchDegree prog_9_method_8_code 3 (Option.some Jvm.ClassFile.FieldType.int) ∈ WS := in_WS 861 (by decide +kernel) (by decide +kernel)
theorem w862 : Cond.methodLink "SplitTowers$State" 56 Lib.Math.max.name ∈ WS := in_WS 862 (by decide +kernel) (by decide +kernel)
theorem w863 : Cond.methodLink "SplitTowers" 248 yX7_emptyRegisters ∈ WS := in_WS 863 (by decide +kernel) (by decide +kernel)
theorem w864 : Cond.instanceMethod yX7_emptyRegisters ∈ WS := in_WS 864 (by decide +kernel) (by decide +kernel)
theorem w865 : Cond.selects "SplitTowers$State" yX7_emptyRegisters yX7_emptyRegisters ∈ WS := in_WS 865 (by decide +kernel) (by decide +kernel)
theorem w866 : Cond.code yX7_emptyRegisters prog_9_method_9_code 3 (Option.some Jvm.ClassFile.FieldType.int) ∈ WS := in_WS 866 (by decide +kernel) (by decide +kernel)
theorem w867 : Cond.classLink "SplitTowersLaw" 10 "SplitTowersModel" ∈ WS := in_WS 867 (by decide +kernel) (by decide +kernel)
theorem w868 : Cond.instantiable "SplitTowersModel" 15 ∈ WS := in_WS 868 (by decide +kernel) (by decide +kernel)
theorem w869 : Cond.methodLink "SplitTowersLaw" 12 yX10_init ∈ WS := in_WS 869 (by decide +kernel) (by decide +kernel)
theorem w870 : Cond.instanceMethod yX10_init ∈ WS := in_WS 870 (by decide +kernel) (by decide +kernel)
theorem w871 : Cond.code yX10_init prog_12_method_1_code 1 (Option.none : Option Jvm.ClassFile.FieldType) ∈ WS := in_WS 871 (by decide +kernel) (by decide +kernel)
theorem w872 : Cond.methodLink "SplitTowersModel" 1 objectInit ∈ WS := in_WS 872 (by decide +kernel) (by decide +kernel)
theorem w873 : Cond.methodLink "SplitTowersModel" 44 yX10_resets ∈ WS := in_WS 873 (by decide +kernel) (by decide +kernel)
theorem w875 : Cond.instanceMethod yX10_resets ∈ WS := in_WS 875 (by decide +kernel) (by decide +kernel)
theorem w876 : Cond.code yX10_resets prog_12_method_2_code 2 (Option.none : Option Jvm.ClassFile.FieldType) ∈ WS := in_WS 876 (by decide +kernel) (by decide +kernel)
theorem w877 : Cond.fieldLink "SplitTowersModel" 7 "SplitTowersModel" "now" "[I" ∈ WS := in_WS 877 (by decide +kernel) (by decide +kernel)
theorem w878 : Cond.fieldLink "SplitTowersModel" 13 "SplitTowersModel" "history" "[I" ∈ WS := in_WS 878 (by decide +kernel) (by decide +kernel)
theorem w879 : Cond.fieldLink "SplitTowersModel" 51 "SplitTowersModel" "kept" "I" ∈ WS := in_WS 879 (by decide +kernel) (by decide +kernel)
theorem w880 : Cond.fieldLink "SplitTowersModel" 16 "SplitTowersModel" "slot" "[I" ∈ WS := in_WS 880 (by decide +kernel) (by decide +kernel)
theorem w881 : Cond.fieldLink "SplitTowersModel" 216 "SplitTowersModel" "isFilled" "Z" ∈ WS := in_WS 881 (by decide +kernel) (by decide +kernel)
theorem w882 : Cond.fieldLink "SplitTowersModel" 19 "SplitTowersModel" "table" "[I" ∈ WS := in_WS 882 (by decide +kernel) (by decide +kernel)
theorem w883 : Cond.fieldLink "SplitTowersModel" 22 "SplitTowersModel" "made" "[I" ∈ WS := in_WS 883 (by decide +kernel) (by decide +kernel)
theorem w884 : Cond.fieldLink "SplitTowersModel" 25 "SplitTowersModel" "before" "[I" ∈ WS := in_WS 884 (by decide +kernel) (by decide +kernel)
theorem w885 : Cond.fieldLink "SplitTowersModel" 187 "SplitTowersModel" "typed" "I" ∈ WS := in_WS 885 (by decide +kernel) (by decide +kernel)
theorem w886 : Cond.fieldLink "SplitTowersModel" 28 "SplitTowersModel" "text" "[C" ∈ WS := in_WS 886 (by decide +kernel) (by decide +kernel)
theorem w887 : Cond.fieldLink "SplitTowersModel" 138 "SplitTowersModel" "at" "I" ∈ WS := in_WS 887 (by decide +kernel) (by decide +kernel)
theorem w888 : Cond.fieldLink "SplitTowersModel" 32 "SplitTowersModel" "read" "[I" ∈ WS := in_WS 888 (by decide +kernel) (by decide +kernel)
theorem w889 : Cond.fieldLink "SplitTowersModel" 35 "SplitTowersModel" "toSum" "[I" ∈ WS := in_WS 889 (by decide +kernel) (by decide +kernel)
theorem w890 : Cond.fieldLink "SplitTowersModel" 38 "SplitTowersModel" "toProduct" "[I" ∈ WS := in_WS 890 (by decide +kernel) (by decide +kernel)
theorem w891 : Cond.fieldLink "SplitTowersModel" 41 "SplitTowersModel" "factors" "[I" ∈ WS := in_WS 891 (by decide +kernel) (by decide +kernel)
theorem w923 : Cond.arrayClass Jvm.ClassFile.FieldType.char ∈ WS := in_WS 923 (by decide +kernel) (by decide +kernel)
theorem w924 : Cond.methodLink "SplitTowersLaw" 17 yX10_setPrime ∈ WS := in_WS 924 (by decide +kernel) (by decide +kernel)
theorem w925 : Cond.instanceMethod yX10_setPrime ∈ WS := in_WS 925 (by decide +kernel) (by decide +kernel)
theorem w926 : Cond.selects "SplitTowersModel" yX10_setPrime yX10_setPrime ∈ WS := in_WS 926 (by decide +kernel) (by decide +kernel)
theorem w927 : Cond.code yX10_setPrime prog_12_method_35_code 3 (Option.some Jvm.ClassFile.FieldType.int) ∈ WS := in_WS 927 (by decide +kernel) (by decide +kernel)
theorem w928 : Cond.methodLink "SplitTowersModel" 131 yX10_record ∈ WS := in_WS 928 (by decide +kernel) (by decide +kernel)
theorem w930 : Cond.instanceMethod yX10_record ∈ WS := in_WS 930 (by decide +kernel) (by decide +kernel)
theorem w931 : Cond.code yX10_record prog_12_method_6_code 2 (Option.none : Option Jvm.ClassFile.FieldType) ∈ WS := in_WS 931 (by decide +kernel) (by decide +kernel)
theorem w932 : Cond.methodLink "SplitTowersLaw" 22 yX10_readModulus ∈ WS := in_WS 932 (by decide +kernel) (by decide +kernel)
theorem w933 : Cond.instanceMethod yX10_readModulus ∈ WS := in_WS 933 (by decide +kernel) (by decide +kernel)
theorem w934 : Cond.selects "SplitTowersModel" yX10_readModulus yX10_readModulus ∈ WS := in_WS 934 (by decide +kernel) (by decide +kernel)
theorem w935 : Cond.code yX10_readModulus prog_12_method_37_code 5 (Option.some Jvm.ClassFile.FieldType.int) ∈ WS := in_WS 935 (by decide +kernel) (by decide +kernel)
theorem w936 : Cond.methodLink "SplitTowersModel" 134 yX10_coefficients ∈ WS := in_WS 936 (by decide +kernel) (by decide +kernel)
theorem w938 : Cond.instanceMethod yX10_coefficients ∈ WS := in_WS 938 (by decide +kernel) (by decide +kernel)
theorem w939 : Cond.code yX10_coefficients prog_12_method_56_code 3 (Option.some Jvm.ClassFile.FieldType.int) ∈ WS := in_WS 939 (by decide +kernel) (by decide +kernel)
theorem w940 : Cond.methodLink "SplitTowersModel" 190 yX10_isBetween ∈ WS := in_WS 940 (by decide +kernel) (by decide +kernel)
theorem w942 : Cond.instanceMethod yX10_isBetween ∈ WS := in_WS 942 (by decide +kernel) (by decide +kernel)
theorem w943 : Cond.code yX10_isBetween prog_12_method_54_code 3 (Option.some Jvm.ClassFile.FieldType.boolean) ∈ WS := in_WS 943 (by decide +kernel) (by decide +kernel)
theorem w944 : Cond.methodLink "SplitTowersModel" 47 yX10_in ∈ WS := in_WS 944 (by decide +kernel) (by decide +kernel)
theorem w945 : Cond.static yX10_in ∈ WS := in_WS 945 (by decide +kernel) (by decide +kernel)
theorem w946 : Cond.code yX10_in prog_12_method_3_code 3 (Option.some Jvm.ClassFile.FieldType.boolean) ∈ WS := in_WS 946 (by decide +kernel) (by decide +kernel)
theorem w947 : Cond.methodLink "SplitTowersModel" 193 yX10_takes ∈ WS := in_WS 947 (by decide +kernel) (by decide +kernel)
theorem w949 : Cond.instanceMethod yX10_takes ∈ WS := in_WS 949 (by decide +kernel) (by decide +kernel)
theorem w950 : Cond.code yX10_takes prog_12_method_55_code 3 (Option.some Jvm.ClassFile.FieldType.boolean) ∈ WS := in_WS 950 (by decide +kernel) (by decide +kernel)
theorem w951 : Cond.methodLink "SplitTowersModel" 63 yX10_clears ∈ WS := in_WS 951 (by decide +kernel) (by decide +kernel)
theorem w953 : Cond.instanceMethod yX10_clears ∈ WS := in_WS 953 (by decide +kernel) (by decide +kernel)
theorem w954 : Cond.code yX10_clears prog_12_method_10_code 3 (Option.none : Option Jvm.ClassFile.FieldType) ∈ WS := in_WS 954 (by decide +kernel) (by decide +kernel)
theorem w955 : Cond.methodLink "SplitTowersModel" 59 yX10_puts ∈ WS := in_WS 955 (by decide +kernel) (by decide +kernel)
theorem w957 : Cond.instanceMethod yX10_puts ∈ WS := in_WS 957 (by decide +kernel) (by decide +kernel)
theorem w958 : Cond.code yX10_puts prog_12_method_8_code 4 (Option.none : Option Jvm.ClassFile.FieldType) ∈ WS := in_WS 958 (by decide +kernel) (by decide +kernel)
theorem w959 : Cond.methodLink "SplitTowersModel" 141 yX10_derives ∈ WS := in_WS 959 (by decide +kernel) (by decide +kernel)
theorem w961 : Cond.instanceMethod yX10_derives ∈ WS := in_WS 961 (by decide +kernel) (by decide +kernel)
theorem w962 : Cond.code yX10_derives prog_12_method_36_code 4 (Option.none : Option Jvm.ClassFile.FieldType) ∈ WS := in_WS 962 (by decide +kernel) (by decide +kernel)
theorem w963 : Cond.methodLink "SplitTowersModel" 55 yX10_of ∈ WS := in_WS 963 (by decide +kernel) (by decide +kernel)
theorem w965 : Cond.instanceMethod yX10_of ∈ WS := in_WS 965 (by decide +kernel) (by decide +kernel)
theorem w966 : Cond.code yX10_of prog_12_method_7_code 3 (Option.some Jvm.ClassFile.FieldType.int) ∈ WS := in_WS 966 (by decide +kernel) (by decide +kernel)
theorem w967 : Cond.methodLink "SplitTowersModel" 109 yX10_common ∈ WS := in_WS 967 (by decide +kernel) (by decide +kernel)
theorem w969 : Cond.instanceMethod yX10_common ∈ WS := in_WS 969 (by decide +kernel) (by decide +kernel)
theorem w970 : Cond.code yX10_common prog_12_method_22_code 4 (Option.none : Option Jvm.ClassFile.FieldType) ∈ WS := in_WS 970 (by decide +kernel) (by decide +kernel)
theorem w971 : Cond.methodLink "SplitTowersModel" 77 yX10_copies ∈ WS := in_WS 971 (by decide +kernel) (by decide +kernel)
theorem w973 : Cond.instanceMethod yX10_copies ∈ WS := in_WS 973 (by decide +kernel) (by decide +kernel)
theorem w974 : Cond.code yX10_copies prog_12_method_11_code 4 (Option.none : Option Jvm.ClassFile.FieldType) ∈ WS := in_WS 974 (by decide +kernel) (by decide +kernel)
theorem w975 : Cond.methodLink "SplitTowersModel" 70 yX10_degree ∈ WS := in_WS 975 (by decide +kernel) (by decide +kernel)
theorem w977 : Cond.instanceMethod yX10_degree ∈ WS := in_WS 977 (by decide +kernel) (by decide +kernel)
theorem w978 : Cond.code yX10_degree prog_12_method_9_code 3 (Option.some Jvm.ClassFile.FieldType.int) ∈ WS := in_WS 978 (by decide +kernel) (by decide +kernel)
theorem w979 : Cond.methodLink "SplitTowersModel" 81 yX10_divides ∈ WS := in_WS 979 (by decide +kernel) (by decide +kernel)
theorem w981 : Cond.instanceMethod yX10_divides ∈ WS := in_WS 981 (by decide +kernel) (by decide +kernel)
theorem w982 : Cond.code yX10_divides prog_12_method_20_code 10 (Option.none : Option Jvm.ClassFile.FieldType) ∈ WS := in_WS 982 (by decide +kernel) (by decide +kernel)
theorem w983 : Cond.methodLink "SplitTowersModel" 74 yX10_inverse ∈ WS := in_WS 983 (by decide +kernel) (by decide +kernel)
theorem w985 : Cond.instanceMethod yX10_inverse ∈ WS := in_WS 985 (by decide +kernel) (by decide +kernel)
theorem w986 : Cond.code yX10_inverse prog_12_method_17_code 3 (Option.some Jvm.ClassFile.FieldType.int) ∈ WS := in_WS 986 (by decide +kernel) (by decide +kernel)
theorem w987 : Cond.methodLink "SplitTowersModel" 84 yX10_monic ∈ WS := in_WS 987 (by decide +kernel) (by decide +kernel)
theorem w989 : Cond.instanceMethod yX10_monic ∈ WS := in_WS 989 (by decide +kernel) (by decide +kernel)
theorem w990 : Cond.code yX10_monic prog_12_method_21_code 4 (Option.none : Option Jvm.ClassFile.FieldType) ∈ WS := in_WS 990 (by decide +kernel) (by decide +kernel)
theorem w991 : Cond.methodLink "SplitTowersModel" 144 yX10_loadsNumber ∈ WS := in_WS 991 (by decide +kernel) (by decide +kernel)
theorem w993 : Cond.instanceMethod yX10_loadsNumber ∈ WS := in_WS 993 (by decide +kernel) (by decide +kernel)
theorem w994 : Cond.code yX10_loadsNumber prog_12_method_16_code 3 (Option.none : Option Jvm.ClassFile.FieldType) ∈ WS := in_WS 994 (by decide +kernel) (by decide +kernel)
theorem w995 : Cond.methodLink "SplitTowersModel" 67 yX10_loads ∈ WS := in_WS 995 (by decide +kernel) (by decide +kernel)
theorem w997 : Cond.instanceMethod yX10_loads ∈ WS := in_WS 997 (by decide +kernel) (by decide +kernel)
theorem w998 : Cond.code yX10_loads prog_12_method_13_code 5 (Option.none : Option Jvm.ClassFile.FieldType) ∈ WS := in_WS 998 (by decide +kernel) (by decide +kernel)
theorem w999 : Cond.methodLink "SplitTowersModel" 147 yX10_stores ∈ WS := in_WS 999 (by decide +kernel) (by decide +kernel)
theorem w1001 : Cond.instanceMethod yX10_stores ∈ WS := in_WS 1001 (by decide +kernel) (by decide +kernel)
theorem w1002 : Cond.code yX10_stores prog_12_method_38_code 4 (Option.none : Option Jvm.ClassFile.FieldType) ∈ WS := in_WS 1002 (by decide +kernel) (by decide +kernel)
theorem w1003 : Cond.methodLink "SplitTowersModel" 112 yX10_comes ∈ WS := in_WS 1003 (by decide +kernel) (by decide +kernel)
theorem w1005 : Cond.instanceMethod yX10_comes ∈ WS := in_WS 1005 (by decide +kernel) (by decide +kernel)
theorem w1006 : Cond.code yX10_comes prog_12_method_29_code 2 (Option.none : Option Jvm.ClassFile.FieldType) ∈ WS := in_WS 1006 (by decide +kernel) (by decide +kernel)
theorem w1007 : Cond.methodLink "SplitTowersModel" 103 yX10_lays ∈ WS := in_WS 1007 (by decide +kernel) (by decide +kernel)
theorem w1009 : Cond.instanceMethod yX10_lays ∈ WS := in_WS 1009 (by decide +kernel) (by decide +kernel)
theorem w1010 : Cond.code yX10_lays prog_12_method_28_code 4 (Option.none : Option Jvm.ClassFile.FieldType) ∈ WS := in_WS 1010 (by decide +kernel) (by decide +kernel)
theorem w1011 : Cond.methodLink "SplitTowersLaw" 27 yX10_setNumber ∈ WS := in_WS 1011 (by decide +kernel) (by decide +kernel)
theorem w1012 : Cond.instanceMethod yX10_setNumber ∈ WS := in_WS 1012 (by decide +kernel) (by decide +kernel)
theorem w1013 : Cond.selects "SplitTowersModel" yX10_setNumber yX10_setNumber ∈ WS := in_WS 1013 (by decide +kernel) (by decide +kernel)
theorem w1014 : Cond.code yX10_setNumber prog_12_method_41_code 5 (Option.some Jvm.ClassFile.FieldType.int) ∈ WS := in_WS 1014 (by decide +kernel) (by decide +kernel)
theorem w1015 : Cond.methodLink "SplitTowersModel" 156 yX10_noRegister ∈ WS := in_WS 1015 (by decide +kernel) (by decide +kernel)
theorem w1016 : Cond.static yX10_noRegister ∈ WS := in_WS 1016 (by decide +kernel) (by decide +kernel)
theorem w1017 : Cond.code yX10_noRegister prog_12_method_4_code 1 (Option.some Jvm.ClassFile.FieldType.boolean) ∈ WS := in_WS 1017 (by decide +kernel) (by decide +kernel)
theorem w1018 : Cond.methodLink "SplitTowersModel" 159 yX10_noPlace ∈ WS := in_WS 1018 (by decide +kernel) (by decide +kernel)
theorem w1020 : Cond.instanceMethod yX10_noPlace ∈ WS := in_WS 1020 (by decide +kernel) (by decide +kernel)
theorem w1021 : Cond.code yX10_noPlace prog_12_method_40_code 2 (Option.some Jvm.ClassFile.FieldType.boolean) ∈ WS := in_WS 1021 (by decide +kernel) (by decide +kernel)
theorem w1022 : Cond.methodLink "SplitTowersModel" 153 yX10_degreeOfModulus ∈ WS := in_WS 1022 (by decide +kernel) (by decide +kernel)
theorem w1024 : Cond.instanceMethod yX10_degreeOfModulus ∈ WS := in_WS 1024 (by decide +kernel) (by decide +kernel)
theorem w1025 : Cond.code yX10_degreeOfModulus prog_12_method_39_code 1 (Option.some Jvm.ClassFile.FieldType.int) ∈ WS := in_WS 1025 (by decide +kernel) (by decide +kernel)
theorem w1026 : Cond.methodLink "SplitTowersModel" 150 yX10_loadsModulus ∈ WS := in_WS 1026 (by decide +kernel) (by decide +kernel)
theorem w1028 : Cond.instanceMethod yX10_loadsModulus ∈ WS := in_WS 1028 (by decide +kernel) (by decide +kernel)
theorem w1029 : Cond.code yX10_loadsModulus prog_12_method_14_code 1 (Option.none : Option Jvm.ClassFile.FieldType) ∈ WS := in_WS 1029 (by decide +kernel) (by decide +kernel)
theorem w1030 : Cond.methodLink "SplitTowersLaw" 35 yX10_put ∈ WS := in_WS 1030 (by decide +kernel) (by decide +kernel)
theorem w1031 : Cond.instanceMethod yX10_put ∈ WS := in_WS 1031 (by decide +kernel) (by decide +kernel)
theorem w1032 : Cond.selects "SplitTowersModel" yX10_put yX10_put ∈ WS := in_WS 1032 (by decide +kernel) (by decide +kernel)
theorem w1033 : Cond.code yX10_put prog_12_method_42_code 6 (Option.some Jvm.ClassFile.FieldType.int) ∈ WS := in_WS 1033 (by decide +kernel) (by decide +kernel)
theorem w1034 : Cond.methodLink "SplitTowersModel" 162 yX10_noBranch ∈ WS := in_WS 1034 (by decide +kernel) (by decide +kernel)
theorem w1036 : Cond.instanceMethod yX10_noBranch ∈ WS := in_WS 1036 (by decide +kernel) (by decide +kernel)
theorem w1037 : Cond.code yX10_noBranch prog_12_method_5_code 2 (Option.some Jvm.ClassFile.FieldType.boolean) ∈ WS := in_WS 1037 (by decide +kernel) (by decide +kernel)
theorem w1038 : Cond.methodLink "SplitTowersModel" 106 yX10_loadsBranch ∈ WS := in_WS 1038 (by decide +kernel) (by decide +kernel)
theorem w1040 : Cond.instanceMethod yX10_loadsBranch ∈ WS := in_WS 1040 (by decide +kernel) (by decide +kernel)
theorem w1041 : Cond.code yX10_loadsBranch prog_12_method_15_code 3 (Option.none : Option Jvm.ClassFile.FieldType) ∈ WS := in_WS 1041 (by decide +kernel) (by decide +kernel)
theorem w1042 : Cond.methodLink "SplitTowersModel" 128 yX10_unitOf ∈ WS := in_WS 1042 (by decide +kernel) (by decide +kernel)
theorem w1044 : Cond.instanceMethod yX10_unitOf ∈ WS := in_WS 1044 (by decide +kernel) (by decide +kernel)
theorem w1045 : Cond.code yX10_unitOf prog_12_method_33_code 2 (Option.none : Option Jvm.ClassFile.FieldType) ∈ WS := in_WS 1045 (by decide +kernel) (by decide +kernel)
theorem w1046 : Cond.methodLink "SplitTowersModel" 118 yX10_inverts ∈ WS := in_WS 1046 (by decide +kernel) (by decide +kernel)
theorem w1048 : Cond.instanceMethod yX10_inverts ∈ WS := in_WS 1048 (by decide +kernel) (by decide +kernel)
theorem w1049 : Cond.code yX10_inverts prog_12_method_23_code 5 (Option.none : Option Jvm.ClassFile.FieldType) ∈ WS := in_WS 1049 (by decide +kernel) (by decide +kernel)
theorem w1050 : Cond.methodLink "SplitTowersModel" 87 yX10_constant ∈ WS := in_WS 1050 (by decide +kernel) (by decide +kernel)
theorem w1052 : Cond.instanceMethod yX10_constant ∈ WS := in_WS 1052 (by decide +kernel) (by decide +kernel)
theorem w1053 : Cond.code yX10_constant prog_12_method_12_code 3 (Option.none : Option Jvm.ClassFile.FieldType) ∈ WS := in_WS 1053 (by decide +kernel) (by decide +kernel)
theorem w1054 : Cond.methodLink "SplitTowersModel" 90 yX10_multiplies ∈ WS := in_WS 1054 (by decide +kernel) (by decide +kernel)
theorem w1056 : Cond.instanceMethod yX10_multiplies ∈ WS := in_WS 1056 (by decide +kernel) (by decide +kernel)
theorem w1057 : Cond.code yX10_multiplies prog_12_method_19_code 8 (Option.none : Option Jvm.ClassFile.FieldType) ∈ WS := in_WS 1057 (by decide +kernel) (by decide +kernel)
theorem w1058 : Cond.methodLink "SplitTowersModel" 93 yX10_adds ∈ WS := in_WS 1058 (by decide +kernel) (by decide +kernel)
theorem w1060 : Cond.instanceMethod yX10_adds ∈ WS := in_WS 1060 (by decide +kernel) (by decide +kernel)
theorem w1061 : Cond.code yX10_adds prog_12_method_18_code 6 (Option.none : Option Jvm.ClassFile.FieldType) ∈ WS := in_WS 1061 (by decide +kernel) (by decide +kernel)
theorem w1062 : Cond.methodLink "SplitTowersModel" 125 yX10_kindIn ∈ WS := in_WS 1062 (by decide +kernel) (by decide +kernel)
theorem w1064 : Cond.instanceMethod yX10_kindIn ∈ WS := in_WS 1064 (by decide +kernel) (by decide +kernel)
theorem w1065 : Cond.code yX10_kindIn prog_12_method_32_code 2 (Option.some Jvm.ClassFile.FieldType.int) ∈ WS := in_WS 1065 (by decide +kernel) (by decide +kernel)
theorem w1066 : Cond.methodLink "SplitTowersLaw" 39 yX10_part ∈ WS := in_WS 1066 (by decide +kernel) (by decide +kernel)
theorem w1067 : Cond.instanceMethod yX10_part ∈ WS := in_WS 1067 (by decide +kernel) (by decide +kernel)
theorem w1068 : Cond.selects "SplitTowersModel" yX10_part yX10_part ∈ WS := in_WS 1068 (by decide +kernel) (by decide +kernel)
theorem w1069 : Cond.code yX10_part prog_12_method_46_code 2 (Option.some Jvm.ClassFile.FieldType.int) ∈ WS := in_WS 1069 (by decide +kernel) (by decide +kernel)
theorem w1070 : Cond.methodLink "SplitTowersModel" 165 yX10_remembers ∈ WS := in_WS 1070 (by decide +kernel) (by decide +kernel)
theorem w1072 : Cond.instanceMethod yX10_remembers ∈ WS := in_WS 1072 (by decide +kernel) (by decide +kernel)
theorem w1073 : Cond.code yX10_remembers prog_12_method_44_code 2 (Option.none : Option Jvm.ClassFile.FieldType) ∈ WS := in_WS 1073 (by decide +kernel) (by decide +kernel)
theorem w1074 : Cond.methodLink "SplitTowersModel" 121 yX10_parts ∈ WS := in_WS 1074 (by decide +kernel) (by decide +kernel)
theorem w1076 : Cond.instanceMethod yX10_parts ∈ WS := in_WS 1076 (by decide +kernel) (by decide +kernel)
theorem w1077 : Cond.code yX10_parts prog_12_method_31_code 5 (Option.some Jvm.ClassFile.FieldType.boolean) ∈ WS := in_WS 1077 (by decide +kernel) (by decide +kernel)
theorem w1078 : Cond.methodLink "SplitTowersModel" 115 yX10_sorts ∈ WS := in_WS 1078 (by decide +kernel) (by decide +kernel)
theorem w1080 : Cond.instanceMethod yX10_sorts ∈ WS := in_WS 1080 (by decide +kernel) (by decide +kernel)
theorem w1081 : Cond.code yX10_sorts prog_12_method_27_code 3 (Option.none : Option Jvm.ClassFile.FieldType) ∈ WS := in_WS 1081 (by decide +kernel) (by decide +kernel)
theorem w1082 : Cond.methodLink "SplitTowersModel" 96 yX10_isBefore ∈ WS := in_WS 1082 (by decide +kernel) (by decide +kernel)
theorem w1084 : Cond.instanceMethod yX10_isBefore ∈ WS := in_WS 1084 (by decide +kernel) (by decide +kernel)
theorem w1085 : Cond.code yX10_isBefore prog_12_method_25_code 6 (Option.some Jvm.ClassFile.FieldType.boolean) ∈ WS := in_WS 1085 (by decide +kernel) (by decide +kernel)
theorem w1086 : Cond.methodLink "SplitTowersModel" 100 yX10_swaps ∈ WS := in_WS 1086 (by decide +kernel) (by decide +kernel)
theorem w1088 : Cond.instanceMethod yX10_swaps ∈ WS := in_WS 1088 (by decide +kernel) (by decide +kernel)
theorem w1089 : Cond.code yX10_swaps prog_12_method_26_code 5 (Option.none : Option Jvm.ClassFile.FieldType) ∈ WS := in_WS 1089 (by decide +kernel) (by decide +kernel)
theorem w1090 : Cond.methodLink "SplitTowersModel" 168 yX10_recordsBefore ∈ WS := in_WS 1090 (by decide +kernel) (by decide +kernel)
theorem w1092 : Cond.instanceMethod yX10_recordsBefore ∈ WS := in_WS 1092 (by decide +kernel) (by decide +kernel)
theorem w1093 : Cond.code yX10_recordsBefore prog_12_method_45_code 3 (Option.none : Option Jvm.ClassFile.FieldType) ∈ WS := in_WS 1093 (by decide +kernel) (by decide +kernel)
theorem w1094 : Cond.methodLink "SplitTowersModel" 171 yX10_nothings ∈ WS := in_WS 1094 (by decide +kernel) (by decide +kernel)
theorem w1096 : Cond.instanceMethod yX10_nothings ∈ WS := in_WS 1096 (by decide +kernel) (by decide +kernel)
theorem w1097 : Cond.code yX10_nothings prog_12_method_43_code 4 (Option.some Jvm.ClassFile.FieldType.int) ∈ WS := in_WS 1097 (by decide +kernel) (by decide +kernel)
theorem w1098 : Cond.methodLink "SplitTowersLaw" 43 yX10_partByDegrees ∈ WS := in_WS 1098 (by decide +kernel) (by decide +kernel)
theorem w1099 : Cond.instanceMethod yX10_partByDegrees ∈ WS := in_WS 1099 (by decide +kernel) (by decide +kernel)
theorem w1100 : Cond.selects "SplitTowersModel" yX10_partByDegrees yX10_partByDegrees ∈ WS := in_WS 1100 (by decide +kernel) (by decide +kernel)
theorem w1101 : Cond.code yX10_partByDegrees prog_12_method_48_code 5 (Option.some Jvm.ClassFile.FieldType.int) ∈ WS := in_WS 1101 (by decide +kernel) (by decide +kernel)
theorem w1102 : Cond.methodLink "SplitTowersModel" 178 yX10_takesDegree ∈ WS := in_WS 1102 (by decide +kernel) (by decide +kernel)
theorem w1104 : Cond.instanceMethod yX10_takesDegree ∈ WS := in_WS 1104 (by decide +kernel) (by decide +kernel)
theorem w1105 : Cond.code yX10_takesDegree prog_12_method_47_code 4 (Option.none : Option Jvm.ClassFile.FieldType) ∈ WS := in_WS 1105 (by decide +kernel) (by decide +kernel)
theorem w1106 : Cond.methodLink "SplitTowersModel" 174 yX10_raises ∈ WS := in_WS 1106 (by decide +kernel) (by decide +kernel)
theorem w1108 : Cond.instanceMethod yX10_raises ∈ WS := in_WS 1108 (by decide +kernel) (by decide +kernel)
theorem w1109 : Cond.code yX10_raises prog_12_method_24_code 6 (Option.none : Option Jvm.ClassFile.FieldType) ∈ WS := in_WS 1109 (by decide +kernel) (by decide +kernel)
theorem w1110 : Cond.methodLink "SplitTowersLaw" 48 yX10_join ∈ WS := in_WS 1110 (by decide +kernel) (by decide +kernel)
theorem w1111 : Cond.instanceMethod yX10_join ∈ WS := in_WS 1111 (by decide +kernel) (by decide +kernel)
theorem w1112 : Cond.selects "SplitTowersModel" yX10_join yX10_join ∈ WS := in_WS 1112 (by decide +kernel) (by decide +kernel)
theorem w1113 : Cond.code yX10_join prog_12_method_50_code 3 (Option.some Jvm.ClassFile.FieldType.int) ∈ WS := in_WS 1113 (by decide +kernel) (by decide +kernel)
theorem w1114 : Cond.methodLink "SplitTowersModel" 181 yX10_goes ∈ WS := in_WS 1114 (by decide +kernel) (by decide +kernel)
theorem w1116 : Cond.instanceMethod yX10_goes ∈ WS := in_WS 1116 (by decide +kernel) (by decide +kernel)
theorem w1117 : Cond.code yX10_goes prog_12_method_30_code 2 (Option.none : Option Jvm.ClassFile.FieldType) ∈ WS := in_WS 1117 (by decide +kernel) (by decide +kernel)
theorem w1118 : Cond.methodLink "SplitTowersModel" 184 yX10_placeOf ∈ WS := in_WS 1118 (by decide +kernel) (by decide +kernel)
theorem w1120 : Cond.instanceMethod yX10_placeOf ∈ WS := in_WS 1120 (by decide +kernel) (by decide +kernel)
theorem w1121 : Cond.code yX10_placeOf prog_12_method_49_code 5 (Option.some Jvm.ClassFile.FieldType.int) ∈ WS := in_WS 1121 (by decide +kernel) (by decide +kernel)
theorem w1122 : Cond.methodLink "SplitTowersLaw" 52 yX10_joinAlike ∈ WS := in_WS 1122 (by decide +kernel) (by decide +kernel)
theorem w1123 : Cond.instanceMethod yX10_joinAlike ∈ WS := in_WS 1123 (by decide +kernel) (by decide +kernel)
theorem w1124 : Cond.selects "SplitTowersModel" yX10_joinAlike yX10_joinAlike ∈ WS := in_WS 1124 (by decide +kernel) (by decide +kernel)
theorem w1125 : Cond.code yX10_joinAlike prog_12_method_51_code 6 (Option.some Jvm.ClassFile.FieldType.int) ∈ WS := in_WS 1125 (by decide +kernel) (by decide +kernel)
theorem w1126 : Cond.methodLink "SplitTowersLaw" 57 yX10_type ∈ WS := in_WS 1126 (by decide +kernel) (by decide +kernel)
theorem w1127 : Cond.instanceMethod yX10_type ∈ WS := in_WS 1127 (by decide +kernel) (by decide +kernel)
theorem w1128 : Cond.selects "SplitTowersModel" yX10_type yX10_type ∈ WS := in_WS 1128 (by decide +kernel) (by decide +kernel)
theorem w1129 : Cond.code yX10_type prog_12_method_52_code 2 (Option.some Jvm.ClassFile.FieldType.int) ∈ WS := in_WS 1129 (by decide +kernel) (by decide +kernel)
theorem w1130 : Cond.methodLink "SplitTowersLaw" 61 yX10_clearText ∈ WS := in_WS 1130 (by decide +kernel) (by decide +kernel)
theorem w1131 : Cond.instanceMethod yX10_clearText ∈ WS := in_WS 1131 (by decide +kernel) (by decide +kernel)
theorem w1132 : Cond.selects "SplitTowersModel" yX10_clearText yX10_clearText ∈ WS := in_WS 1132 (by decide +kernel) (by decide +kernel)
theorem w1133 : Cond.code yX10_clearText prog_12_method_53_code 2 (Option.some Jvm.ClassFile.FieldType.int) ∈ WS := in_WS 1133 (by decide +kernel) (by decide +kernel)
theorem w1134 : Cond.methodLink "SplitTowersLaw" 31 yX10_assign ∈ WS := in_WS 1134 (by decide +kernel) (by decide +kernel)
theorem w1135 : Cond.instanceMethod yX10_assign ∈ WS := in_WS 1135 (by decide +kernel) (by decide +kernel)
theorem w1136 : Cond.selects "SplitTowersModel" yX10_assign yX10_assign ∈ WS := in_WS 1136 (by decide +kernel) (by decide +kernel)
theorem w1137 : Cond.code yX10_assign prog_12_method_62_code 1 (Option.some Jvm.ClassFile.FieldType.int) ∈ WS := in_WS 1137 (by decide +kernel) (by decide +kernel)
theorem w1138 : Cond.methodLink "SplitTowersModel" 213 yX10_goesAlong ∈ WS := in_WS 1138 (by decide +kernel) (by decide +kernel)
theorem w1140 : Cond.instanceMethod yX10_goesAlong ∈ WS := in_WS 1140 (by decide +kernel) (by decide +kernel)
theorem w1141 : Cond.code yX10_goesAlong prog_12_method_61_code 4 (Option.some Jvm.ClassFile.FieldType.boolean) ∈ WS := in_WS 1141 (by decide +kernel) (by decide +kernel)
theorem w1142 : Cond.methodLink "SplitTowersModel" 199 yX10_takesSimple ∈ WS := in_WS 1142 (by decide +kernel) (by decide +kernel)
theorem w1144 : Cond.instanceMethod yX10_takesSimple ∈ WS := in_WS 1144 (by decide +kernel) (by decide +kernel)
theorem w1145 : Cond.code yX10_takesSimple prog_12_method_59_code 2 (Option.some Jvm.ClassFile.FieldType.boolean) ∈ WS := in_WS 1145 (by decide +kernel) (by decide +kernel)
theorem w1146 : Cond.methodLink "SplitTowersModel" 203 yX10_takesPower ∈ WS := in_WS 1146 (by decide +kernel) (by decide +kernel)
theorem w1148 : Cond.instanceMethod yX10_takesPower ∈ WS := in_WS 1148 (by decide +kernel) (by decide +kernel)
theorem w1149 : Cond.code yX10_takesPower prog_12_method_60_code 2 (Option.some Jvm.ClassFile.FieldType.boolean) ∈ WS := in_WS 1149 (by decide +kernel) (by decide +kernel)
theorem w1150 : Cond.methodLink "SplitTowersModel" 206 yX10_joinsProduct ∈ WS := in_WS 1150 (by decide +kernel) (by decide +kernel)
theorem w1152 : Cond.instanceMethod yX10_joinsProduct ∈ WS := in_WS 1152 (by decide +kernel) (by decide +kernel)
theorem w1153 : Cond.code yX10_joinsProduct prog_12_method_57_code 4 (Option.none : Option Jvm.ClassFile.FieldType) ∈ WS := in_WS 1153 (by decide +kernel) (by decide +kernel)
theorem w1154 : Cond.methodLink "SplitTowersModel" 196 yX10_quotient ∈ WS := in_WS 1154 (by decide +kernel) (by decide +kernel)
theorem w1156 : Cond.instanceMethod yX10_quotient ∈ WS := in_WS 1156 (by decide +kernel) (by decide +kernel)
theorem w1157 : Cond.code yX10_quotient prog_12_method_34_code 5 (Option.none : Option Jvm.ClassFile.FieldType) ∈ WS := in_WS 1157 (by decide +kernel) (by decide +kernel)
theorem w1158 : Cond.methodLink "SplitTowersModel" 210 yX10_joinsSum ∈ WS := in_WS 1158 (by decide +kernel) (by decide +kernel)
theorem w1160 : Cond.instanceMethod yX10_joinsSum ∈ WS := in_WS 1160 (by decide +kernel) (by decide +kernel)
theorem w1161 : Cond.code yX10_joinsSum prog_12_method_58_code 3 (Option.none : Option Jvm.ClassFile.FieldType) ∈ WS := in_WS 1161 (by decide +kernel) (by decide +kernel)
theorem w1162 : Cond.methodLink "SplitTowersLaw" 65 yX10_undo ∈ WS := in_WS 1162 (by decide +kernel) (by decide +kernel)
theorem w1163 : Cond.instanceMethod yX10_undo ∈ WS := in_WS 1163 (by decide +kernel) (by decide +kernel)
theorem w1164 : Cond.selects "SplitTowersModel" yX10_undo yX10_undo ∈ WS := in_WS 1164 (by decide +kernel) (by decide +kernel)
theorem w1165 : Cond.code yX10_undo prog_12_method_63_code 2 (Option.some Jvm.ClassFile.FieldType.int) ∈ WS := in_WS 1165 (by decide +kernel) (by decide +kernel)
theorem w1166 : Cond.methodLink "SplitTowersLaw" 69 yX10_keep ∈ WS := in_WS 1166 (by decide +kernel) (by decide +kernel)
theorem w1167 : Cond.instanceMethod yX10_keep ∈ WS := in_WS 1167 (by decide +kernel) (by decide +kernel)
theorem w1168 : Cond.selects "SplitTowersModel" yX10_keep yX10_keep ∈ WS := in_WS 1168 (by decide +kernel) (by decide +kernel)
theorem w1169 : Cond.code yX10_keep prog_12_method_64_code 2 (Option.some Jvm.ClassFile.FieldType.int) ∈ WS := in_WS 1169 (by decide +kernel) (by decide +kernel)
theorem w1170 : Cond.methodLink "SplitTowersLaw" 73 yX10_restore ∈ WS := in_WS 1170 (by decide +kernel) (by decide +kernel)
theorem w1171 : Cond.instanceMethod yX10_restore ∈ WS := in_WS 1171 (by decide +kernel) (by decide +kernel)
theorem w1172 : Cond.selects "SplitTowersModel" yX10_restore yX10_restore ∈ WS := in_WS 1172 (by decide +kernel) (by decide +kernel)
theorem w1173 : Cond.code yX10_restore prog_12_method_65_code 2 (Option.some Jvm.ClassFile.FieldType.int) ∈ WS := in_WS 1173 (by decide +kernel) (by decide +kernel)
theorem w1174 : Cond.methodLink "SplitTowersLaw" 77 yX10_modulus ∈ WS := in_WS 1174 (by decide +kernel) (by decide +kernel)
theorem w1175 : Cond.instanceMethod yX10_modulus ∈ WS := in_WS 1175 (by decide +kernel) (by decide +kernel)
theorem w1176 : Cond.selects "SplitTowersModel" yX10_modulus yX10_modulus ∈ WS := in_WS 1176 (by decide +kernel) (by decide +kernel)
theorem w1177 : Cond.code yX10_modulus prog_12_method_66_code 2 (Option.some Jvm.ClassFile.FieldType.int) ∈ WS := in_WS 1177 (by decide +kernel) (by decide +kernel)
theorem w1178 : Cond.methodLink "SplitTowersLaw" 81 yX10_number ∈ WS := in_WS 1178 (by decide +kernel) (by decide +kernel)
theorem w1179 : Cond.instanceMethod yX10_number ∈ WS := in_WS 1179 (by decide +kernel) (by decide +kernel)
theorem w1180 : Cond.selects "SplitTowersModel" yX10_number yX10_number ∈ WS := in_WS 1180 (by decide +kernel) (by decide +kernel)
theorem w1181 : Cond.code yX10_number prog_12_method_67_code 3 (Option.some Jvm.ClassFile.FieldType.int) ∈ WS := in_WS 1181 (by decide +kernel) (by decide +kernel)
theorem w1182 : Cond.methodLink "SplitTowersLaw" 85 yX10_branch ∈ WS := in_WS 1182 (by decide +kernel) (by decide +kernel)
theorem w1183 : Cond.instanceMethod yX10_branch ∈ WS := in_WS 1183 (by decide +kernel) (by decide +kernel)
theorem w1184 : Cond.selects "SplitTowersModel" yX10_branch yX10_branch ∈ WS := in_WS 1184 (by decide +kernel) (by decide +kernel)
theorem w1185 : Cond.code yX10_branch prog_12_method_69_code 3 (Option.some Jvm.ClassFile.FieldType.int) ∈ WS := in_WS 1185 (by decide +kernel) (by decide +kernel)
theorem w1186 : Cond.methodLink "SplitTowersModel" 220 yX10_degreeOfBranch ∈ WS := in_WS 1186 (by decide +kernel) (by decide +kernel)
theorem w1188 : Cond.instanceMethod yX10_degreeOfBranch ∈ WS := in_WS 1188 (by decide +kernel) (by decide +kernel)
theorem w1189 : Cond.code yX10_degreeOfBranch prog_12_method_68_code 2 (Option.some Jvm.ClassFile.FieldType.int) ∈ WS := in_WS 1189 (by decide +kernel) (by decide +kernel)
theorem w1190 : Cond.methodLink "SplitTowersLaw" 89 yX10_seen ∈ WS := in_WS 1190 (by decide +kernel) (by decide +kernel)
theorem w1191 : Cond.instanceMethod yX10_seen ∈ WS := in_WS 1191 (by decide +kernel) (by decide +kernel)
theorem w1192 : Cond.selects "SplitTowersModel" yX10_seen yX10_seen ∈ WS := in_WS 1192 (by decide +kernel) (by decide +kernel)
theorem w1193 : Cond.code yX10_seen prog_12_method_70_code 4 (Option.some Jvm.ClassFile.FieldType.int) ∈ WS := in_WS 1193 (by decide +kernel) (by decide +kernel)
theorem w1194 : Cond.methodLink "SplitTowersLaw" 93 yX10_kind ∈ WS := in_WS 1194 (by decide +kernel) (by decide +kernel)
theorem w1195 : Cond.instanceMethod yX10_kind ∈ WS := in_WS 1195 (by decide +kernel) (by decide +kernel)
theorem w1196 : Cond.selects "SplitTowersModel" yX10_kind yX10_kind ∈ WS := in_WS 1196 (by decide +kernel) (by decide +kernel)
theorem w1197 : Cond.code yX10_kind prog_12_method_71_code 3 (Option.some Jvm.ClassFile.FieldType.int) ∈ WS := in_WS 1197 (by decide +kernel) (by decide +kernel)
theorem w1198 : Cond.methodLink "SplitTowersLaw" 97 yX10_unit ∈ WS := in_WS 1198 (by decide +kernel) (by decide +kernel)
theorem w1199 : Cond.instanceMethod yX10_unit ∈ WS := in_WS 1199 (by decide +kernel) (by decide +kernel)
theorem w1200 : Cond.selects "SplitTowersModel" yX10_unit yX10_unit ∈ WS := in_WS 1200 (by decide +kernel) (by decide +kernel)
theorem w1201 : Cond.code yX10_unit prog_12_method_72_code 3 (Option.some Jvm.ClassFile.FieldType.int) ∈ WS := in_WS 1201 (by decide +kernel) (by decide +kernel)
theorem w1202 : Cond.methodLink "SplitTowersLaw" 101 yX10_power ∈ WS := in_WS 1202 (by decide +kernel) (by decide +kernel)
theorem w1203 : Cond.instanceMethod yX10_power ∈ WS := in_WS 1203 (by decide +kernel) (by decide +kernel)
theorem w1204 : Cond.selects "SplitTowersModel" yX10_power yX10_power ∈ WS := in_WS 1204 (by decide +kernel) (by decide +kernel)
theorem w1205 : Cond.code yX10_power prog_12_method_73_code 4 (Option.some Jvm.ClassFile.FieldType.int) ∈ WS := in_WS 1205 (by decide +kernel) (by decide +kernel)
theorem w1206 : Cond.constant "SplitTowersModel" 223 (1000000 : Int32) ∈ WS := in_WS 1206 (by decide +kernel) (by decide +kernel)
theorem w1207 : Cond.methodLink "SplitTowersLaw" 105 yX10_leastPolynomial ∈ WS := in_WS 1207 (by decide +kernel) (by decide +kernel)
theorem w1208 : Cond.instanceMethod yX10_leastPolynomial ∈ WS := in_WS 1208 (by decide +kernel) (by decide +kernel)
theorem w1209 : Cond.selects "SplitTowersModel" yX10_leastPolynomial yX10_leastPolynomial ∈ WS := in_WS 1209 (by decide +kernel) (by decide +kernel)
theorem w1210 : Cond.code yX10_leastPolynomial prog_12_method_75_code 3 (Option.some Jvm.ClassFile.FieldType.int) ∈ WS := in_WS 1210 (by decide +kernel) (by decide +kernel)
theorem w1211 : Cond.methodLink "SplitTowersModel" 224 yX10_findsLeast ∈ WS := in_WS 1211 (by decide +kernel) (by decide +kernel)
theorem w1213 : Cond.instanceMethod yX10_findsLeast ∈ WS := in_WS 1213 (by decide +kernel) (by decide +kernel)
theorem w1214 : Cond.code yX10_findsLeast prog_12_method_74_code 9 (Option.none : Option Jvm.ClassFile.FieldType) ∈ WS := in_WS 1214 (by decide +kernel) (by decide +kernel)
theorem w1215 : Cond.methodLink "SplitTowersLaw" 109 yX10_trace ∈ WS := in_WS 1215 (by decide +kernel) (by decide +kernel)
theorem w1216 : Cond.instanceMethod yX10_trace ∈ WS := in_WS 1216 (by decide +kernel) (by decide +kernel)
theorem w1217 : Cond.selects "SplitTowersModel" yX10_trace yX10_trace ∈ WS := in_WS 1217 (by decide +kernel) (by decide +kernel)
theorem w1218 : Cond.code yX10_trace prog_12_method_76_code 4 (Option.some Jvm.ClassFile.FieldType.int) ∈ WS := in_WS 1218 (by decide +kernel) (by decide +kernel)
theorem w1219 : Cond.methodLink "SplitTowersLaw" 113 yX10_order ∈ WS := in_WS 1219 (by decide +kernel) (by decide +kernel)
theorem w1220 : Cond.instanceMethod yX10_order ∈ WS := in_WS 1220 (by decide +kernel) (by decide +kernel)
theorem w1221 : Cond.selects "SplitTowersModel" yX10_order yX10_order ∈ WS := in_WS 1221 (by decide +kernel) (by decide +kernel)
theorem w1222 : Cond.code yX10_order prog_12_method_80_code 6 (Option.some Jvm.ClassFile.FieldType.int) ∈ WS := in_WS 1222 (by decide +kernel) (by decide +kernel)
theorem w1223 : Cond.methodLink "SplitTowersModel" 227 yX10_countsFactors ∈ WS := in_WS 1223 (by decide +kernel) (by decide +kernel)
theorem w1225 : Cond.instanceMethod yX10_countsFactors ∈ WS := in_WS 1225 (by decide +kernel) (by decide +kernel)
theorem w1226 : Cond.code yX10_countsFactors prog_12_method_79_code 2 (Option.none : Option Jvm.ClassFile.FieldType) ∈ WS := in_WS 1226 (by decide +kernel) (by decide +kernel)
theorem w1227 : Cond.methodLink "SplitTowersModel" 230 yX10_divisor ∈ WS := in_WS 1227 (by decide +kernel) (by decide +kernel)
theorem w1228 : Cond.static yX10_divisor ∈ WS := in_WS 1228 (by decide +kernel) (by decide +kernel)
theorem w1229 : Cond.code yX10_divisor prog_12_method_78_code 5 (Option.some Jvm.ClassFile.FieldType.int) ∈ WS := in_WS 1229 (by decide +kernel) (by decide +kernel)
theorem w1230 : Cond.methodLink "SplitTowersModel" 233 yX10_isOne ∈ WS := in_WS 1230 (by decide +kernel) (by decide +kernel)
theorem w1232 : Cond.instanceMethod yX10_isOne ∈ WS := in_WS 1232 (by decide +kernel) (by decide +kernel)
theorem w1233 : Cond.code yX10_isOne prog_12_method_77_code 2 (Option.some Jvm.ClassFile.FieldType.boolean) ∈ WS := in_WS 1233 (by decide +kernel) (by decide +kernel)
theorem w1234 : Cond.methodLink "SplitTowersLaw" 117 yX10_factors ∈ WS := in_WS 1234 (by decide +kernel) (by decide +kernel)
theorem w1235 : Cond.instanceMethod yX10_factors ∈ WS := in_WS 1235 (by decide +kernel) (by decide +kernel)
theorem w1236 : Cond.selects "SplitTowersModel" yX10_factors yX10_factors ∈ WS := in_WS 1236 (by decide +kernel) (by decide +kernel)
theorem w1237 : Cond.code yX10_factors prog_12_method_81_code 2 (Option.some Jvm.ClassFile.FieldType.int) ∈ WS := in_WS 1237 (by decide +kernel) (by decide +kernel)
theorem w1238 : Cond.methodLink "SplitTowersLaw" 121 yX10_count ∈ WS := in_WS 1238 (by decide +kernel) (by decide +kernel)
theorem w1239 : Cond.instanceMethod yX10_count ∈ WS := in_WS 1239 (by decide +kernel) (by decide +kernel)
theorem w1240 : Cond.selects "SplitTowersModel" yX10_count yX10_count ∈ WS := in_WS 1240 (by decide +kernel) (by decide +kernel)
theorem w1241 : Cond.code yX10_count prog_12_method_84_code 2 (Option.some Jvm.ClassFile.FieldType.int) ∈ WS := in_WS 1241 (by decide +kernel) (by decide +kernel)
theorem w1242 : Cond.methodLink "SplitTowersModel" 236 yX10_allFactors ∈ WS := in_WS 1242 (by decide +kernel) (by decide +kernel)
theorem w1244 : Cond.instanceMethod yX10_allFactors ∈ WS := in_WS 1244 (by decide +kernel) (by decide +kernel)
theorem w1245 : Cond.code yX10_allFactors prog_12_method_82_code 1 (Option.some Jvm.ClassFile.FieldType.int) ∈ WS := in_WS 1245 (by decide +kernel) (by decide +kernel)
theorem w1246 : Cond.methodLink "SplitTowersModel" 239 yX10_zeros ∈ WS := in_WS 1246 (by decide +kernel) (by decide +kernel)
theorem w1248 : Cond.instanceMethod yX10_zeros ∈ WS := in_WS 1248 (by decide +kernel) (by decide +kernel)
theorem w1249 : Cond.code yX10_zeros prog_12_method_83_code 3 (Option.some Jvm.ClassFile.FieldType.int) ∈ WS := in_WS 1249 (by decide +kernel) (by decide +kernel)
end
section
theorem dX0_init_0 : decode cX0_init 0 = .ok (.aload_n 0, 1) := by decide +kernel
theorem dX0_init_1 : decode cX0_init 1 = .ok (.invokespecial 3, 3) := by decide +kernel
theorem dX0_init_4 : decode cX0_init 4 = .ok (.aload_n 0, 1) := by decide +kernel
theorem dX0_init_5 : decode cX0_init 5 = .ok (.aload_n 1, 1) := by decide +kernel
theorem dX0_init_6 : decode cX0_init 6 = .ok (.putfield 9, 3) := by decide +kernel
theorem dX0_init_9 : decode cX0_init 9 = .ok (.aload_n 0, 1) := by decide +kernel
theorem dX0_init_10 : decode cX0_init 10 = .ok (.aload_n 2, 1) := by decide +kernel
theorem dX0_init_11 : decode cX0_init 11 = .ok (.putfield 15, 3) := by decide +kernel
theorem dX0_init_14 : decode cX0_init 14 = .ok (.aload_n 0, 1) := by decide +kernel
theorem dX0_init_15 : decode cX0_init 15 = .ok (.new 19, 3) := by decide +kernel
theorem dX0_init_18 : decode cX0_init 18 = .ok (.dup, 1) := by decide +kernel
theorem dX0_init_19 : decode cX0_init 19 = .ok (.invokespecial 21, 3) := by decide +kernel
theorem dX0_init_22 : decode cX0_init 22 = .ok (.putfield 22, 3) := by decide +kernel
theorem dX0_init_25 : decode cX0_init 25 = .ok (.aload_n 0, 1) := by decide +kernel
theorem dX0_init_26 : decode cX0_init 26 = .ok (.new 19, 3) := by decide +kernel
theorem dX0_init_29 : decode cX0_init 29 = .ok (.dup, 1) := by decide +kernel
theorem dX0_init_30 : decode cX0_init 30 = .ok (.invokespecial 21, 3) := by decide +kernel
theorem dX0_init_33 : decode cX0_init 33 = .ok (.putfield 26, 3) := by decide +kernel
theorem dX0_init_36 : decode cX0_init 36 = .ok (.aload_n 0, 1) := by decide +kernel
theorem dX0_init_37 : decode cX0_init 37 = .ok (.new 19, 3) := by decide +kernel
theorem dX0_init_40 : decode cX0_init 40 = .ok (.dup, 1) := by decide +kernel
theorem dX0_init_41 : decode cX0_init 41 = .ok (.invokespecial 21, 3) := by decide +kernel
theorem dX0_init_44 : decode cX0_init 44 = .ok (.putfield 29, 3) := by decide +kernel
theorem dX0_init_47 : decode cX0_init 47 = .ok (.aload_n 0, 1) := by decide +kernel
theorem dX0_init_48 : decode cX0_init 48 = .ok (.new 19, 3) := by decide +kernel
theorem dX0_init_51 : decode cX0_init 51 = .ok (.dup, 1) := by decide +kernel
theorem dX0_init_52 : decode cX0_init 52 = .ok (.invokespecial 21, 3) := by decide +kernel
theorem dX0_init_55 : decode cX0_init 55 = .ok (.putfield 32, 3) := by decide +kernel
theorem dX0_init_58 : decode cX0_init 58 = .ok (.return_, 1) := by decide +kernel
theorem dX0_kindIn_0 : decode cX0_kindIn 0 = .ok (.aload_n 0, 1) := by decide +kernel
theorem dX0_kindIn_1 : decode cX0_kindIn 1 = .ok (.getfield 15, 3) := by decide +kernel
theorem dX0_kindIn_4 : decode cX0_kindIn 4 = .ok (.aload_n 0, 1) := by decide +kernel
theorem dX0_kindIn_5 : decode cX0_kindIn 5 = .ok (.getfield 22, 3) := by decide +kernel
theorem dX0_kindIn_8 : decode cX0_kindIn 8 = .ok (.aload_n 1, 1) := by decide +kernel
theorem dX0_kindIn_9 : decode cX0_kindIn 9 = .ok (.aload_n 2, 1) := by decide +kernel
theorem dX0_kindIn_10 : decode cX0_kindIn 10 = .ok (.invokevirtual 35, 3) := by decide +kernel
theorem dX0_kindIn_13 : decode cX0_kindIn 13 = .ok (.aload_n 0, 1) := by decide +kernel
theorem dX0_kindIn_14 : decode cX0_kindIn 14 = .ok (.getfield 22, 3) := by decide +kernel
theorem dX0_kindIn_17 : decode cX0_kindIn 17 = .ok (.getfield 41, 3) := by decide +kernel
theorem dX0_kindIn_20 : decode cX0_kindIn 20 = .ok (.aload_n 1, 1) := by decide +kernel
theorem dX0_kindIn_21 : decode cX0_kindIn 21 = .ok (.getfield 41, 3) := by decide +kernel
theorem dX0_kindIn_24 : decode cX0_kindIn 24 = .ok (.if_icmp .ne 5, 3) := by decide +kernel
theorem dX0_kindIn_27 : decode cX0_kindIn 27 = .ok (.iconst 0, 1) := by decide +kernel
theorem dX0_kindIn_28 : decode cX0_kindIn 28 = .ok (.ireturn, 1) := by decide +kernel
theorem dX0_kindIn_29 : decode cX0_kindIn 29 = .ok (.aload_n 0, 1) := by decide +kernel
theorem dX0_kindIn_30 : decode cX0_kindIn 30 = .ok (.getfield 22, 3) := by decide +kernel
theorem dX0_kindIn_33 : decode cX0_kindIn 33 = .ok (.getfield 41, 3) := by decide +kernel
theorem dX0_kindIn_36 : decode cX0_kindIn 36 = .ok (.ifCond .ne 7, 3) := by decide +kernel
theorem dX0_kindIn_39 : decode cX0_kindIn 39 = .ok (.iconst 1, 1) := by decide +kernel
theorem dX0_kindIn_40 : decode cX0_kindIn 40 = .ok (.goto 4, 3) := by decide +kernel
theorem dX0_kindIn_43 : decode cX0_kindIn 43 = .ok (.iconst 2, 1) := by decide +kernel
theorem dX0_kindIn_44 : decode cX0_kindIn 44 = .ok (.ireturn, 1) := by decide +kernel
theorem dX0_countOfKind_0 : decode cX0_countOfKind 0 = .ok (.iconst 0, 1) := by decide +kernel
theorem dX0_countOfKind_1 : decode cX0_countOfKind 1 = .ok (.istore_n 3, 1) := by decide +kernel
theorem dX0_countOfKind_2 : decode cX0_countOfKind 2 = .ok (.iconst 0, 1) := by decide +kernel
theorem dX0_countOfKind_3 : decode cX0_countOfKind 3 = .ok (.istore 4, 2) := by decide +kernel
theorem dX0_countOfKind_5 : decode cX0_countOfKind 5 = .ok (.iload 4, 2) := by decide +kernel
theorem dX0_countOfKind_7 : decode cX0_countOfKind 7 = .ok (.aload_n 0, 1) := by decide +kernel
theorem dX0_countOfKind_8 : decode cX0_countOfKind 8 = .ok (.getfield 9, 3) := by decide +kernel
theorem dX0_countOfKind_11 : decode cX0_countOfKind 11 = .ok (.getfield 45, 3) := by decide +kernel
theorem dX0_countOfKind_14 : decode cX0_countOfKind 14 = .ok (.if_icmp .ge 31, 3) := by decide +kernel
theorem dX0_countOfKind_17 : decode cX0_countOfKind 17 = .ok (.aload_n 0, 1) := by decide +kernel
theorem dX0_countOfKind_18 : decode cX0_countOfKind 18 = .ok (.aload_n 0, 1) := by decide +kernel
theorem dX0_countOfKind_19 : decode cX0_countOfKind 19 = .ok (.getfield 9, 3) := by decide +kernel
theorem dX0_countOfKind_22 : decode cX0_countOfKind 22 = .ok (.getfield 50, 3) := by decide +kernel
theorem dX0_countOfKind_25 : decode cX0_countOfKind 25 = .ok (.iload 4, 2) := by decide +kernel
theorem dX0_countOfKind_27 : decode cX0_countOfKind 27 = .ok (.aaload, 1) := by decide +kernel
theorem dX0_countOfKind_28 : decode cX0_countOfKind 28 = .ok (.aload_n 1, 1) := by decide +kernel
theorem dX0_countOfKind_29 : decode cX0_countOfKind 29 = .ok (.invokevirtual 54, 3) := by decide +kernel
theorem dX0_countOfKind_32 : decode cX0_countOfKind 32 = .ok (.iload_n 2, 1) := by decide +kernel
theorem dX0_countOfKind_33 : decode cX0_countOfKind 33 = .ok (.if_icmp .ne 6, 3) := by decide +kernel
theorem dX0_countOfKind_36 : decode cX0_countOfKind 36 = .ok (.iinc 3 1, 3) := by decide +kernel
theorem dX0_countOfKind_39 : decode cX0_countOfKind 39 = .ok (.iinc 4 1, 3) := by decide +kernel
theorem dX0_countOfKind_42 : decode cX0_countOfKind 42 = .ok (.goto (-37), 3) := by decide +kernel
theorem dX0_countOfKind_45 : decode cX0_countOfKind 45 = .ok (.iload_n 3, 1) := by decide +kernel
theorem dX0_countOfKind_46 : decode cX0_countOfKind 46 = .ok (.ireturn, 1) := by decide +kernel
theorem dX0_countDifferent_0 : decode cX0_countDifferent 0 = .ok (.aload_n 0, 1) := by decide +kernel
theorem dX0_countDifferent_1 : decode cX0_countDifferent 1 = .ok (.getfield 26, 3) := by decide +kernel
theorem dX0_countDifferent_4 : decode cX0_countDifferent 4 = .ok (.aload_n 1, 1) := by decide +kernel
theorem dX0_countDifferent_5 : decode cX0_countDifferent 5 = .ok (.invokevirtual 58, 3) := by decide +kernel
theorem dX0_countDifferent_8 : decode cX0_countDifferent 8 = .ok (.aload_n 0, 1) := by decide +kernel
theorem dX0_countDifferent_9 : decode cX0_countDifferent 9 = .ok (.getfield 26, 3) := by decide +kernel
theorem dX0_countDifferent_12 : decode cX0_countDifferent 12 = .ok (.iconst (-1), 1) := by decide +kernel
theorem dX0_countDifferent_13 : decode cX0_countDifferent 13 = .ok (.aload_n 2, 1) := by decide +kernel
theorem dX0_countDifferent_14 : decode cX0_countDifferent 14 = .ok (.iconst 0, 1) := by decide +kernel
theorem dX0_countDifferent_15 : decode cX0_countDifferent 15 = .ok (.aload_n 0, 1) := by decide +kernel
theorem dX0_countDifferent_16 : decode cX0_countDifferent 16 = .ok (.getfield 9, 3) := by decide +kernel
theorem dX0_countDifferent_19 : decode cX0_countDifferent 19 = .ok (.getfield 62, 3) := by decide +kernel
theorem dX0_countDifferent_22 : decode cX0_countDifferent 22 = .ok (.invokevirtual 65, 3) := by decide +kernel
theorem dX0_countDifferent_25 : decode cX0_countDifferent 25 = .ok (.aload_n 0, 1) := by decide +kernel
theorem dX0_countDifferent_26 : decode cX0_countDifferent 26 = .ok (.getfield 9, 3) := by decide +kernel
theorem dX0_countDifferent_29 : decode cX0_countDifferent 29 = .ok (.getfield 45, 3) := by decide +kernel
theorem dX0_countDifferent_32 : decode cX0_countDifferent 32 = .ok (.aload_n 0, 1) := by decide +kernel
theorem dX0_countDifferent_33 : decode cX0_countDifferent 33 = .ok (.aload_n 0, 1) := by decide +kernel
theorem dX0_countDifferent_34 : decode cX0_countDifferent 34 = .ok (.getfield 26, 3) := by decide +kernel
theorem dX0_countDifferent_37 : decode cX0_countDifferent 37 = .ok (.iconst 0, 1) := by decide +kernel
theorem dX0_countDifferent_38 : decode cX0_countDifferent 38 = .ok (.invokevirtual 69, 3) := by decide +kernel
theorem dX0_countDifferent_41 : decode cX0_countDifferent 41 = .ok (.isub, 1) := by decide +kernel
theorem dX0_countDifferent_42 : decode cX0_countDifferent 42 = .ok (.ireturn, 1) := by decide +kernel
theorem dX0_partBy_0 : decode cX0_partBy 0 = .ok (.aload_n 0, 1) := by decide +kernel
theorem dX0_partBy_1 : decode cX0_partBy 1 = .ok (.getfield 9, 3) := by decide +kernel
theorem dX0_partBy_4 : decode cX0_partBy 4 = .ok (.getfield 45, 3) := by decide +kernel
theorem dX0_partBy_7 : decode cX0_partBy 7 = .ok (.istore_n 2, 1) := by decide +kernel
theorem dX0_partBy_8 : decode cX0_partBy 8 = .ok (.iconst 0, 1) := by decide +kernel
theorem dX0_partBy_9 : decode cX0_partBy 9 = .ok (.istore_n 3, 1) := by decide +kernel
theorem dX0_partBy_10 : decode cX0_partBy 10 = .ok (.iload_n 3, 1) := by decide +kernel
theorem dX0_partBy_11 : decode cX0_partBy 11 = .ok (.iload_n 2, 1) := by decide +kernel
theorem dX0_partBy_12 : decode cX0_partBy 12 = .ok (.if_icmp .ge 96, 3) := by decide +kernel
theorem dX0_partBy_15 : decode cX0_partBy 15 = .ok (.aload_n 0, 1) := by decide +kernel
theorem dX0_partBy_16 : decode cX0_partBy 16 = .ok (.getfield 9, 3) := by decide +kernel
theorem dX0_partBy_19 : decode cX0_partBy 19 = .ok (.getfield 50, 3) := by decide +kernel
theorem dX0_partBy_22 : decode cX0_partBy 22 = .ok (.iload_n 3, 1) := by decide +kernel
theorem dX0_partBy_23 : decode cX0_partBy 23 = .ok (.aaload, 1) := by decide +kernel
theorem dX0_partBy_24 : decode cX0_partBy 24 = .ok (.astore 4, 2) := by decide +kernel
theorem dX0_partBy_26 : decode cX0_partBy 26 = .ok (.aload_n 0, 1) := by decide +kernel
theorem dX0_partBy_27 : decode cX0_partBy 27 = .ok (.getfield 15, 3) := by decide +kernel
theorem dX0_partBy_30 : decode cX0_partBy 30 = .ok (.aload_n 0, 1) := by decide +kernel
theorem dX0_partBy_31 : decode cX0_partBy 31 = .ok (.getfield 22, 3) := by decide +kernel
theorem dX0_partBy_34 : decode cX0_partBy 34 = .ok (.aload 4, 2) := by decide +kernel
theorem dX0_partBy_36 : decode cX0_partBy 36 = .ok (.aload_n 1, 1) := by decide +kernel
theorem dX0_partBy_37 : decode cX0_partBy 37 = .ok (.invokevirtual 35, 3) := by decide +kernel
theorem dX0_partBy_40 : decode cX0_partBy 40 = .ok (.aload_n 0, 1) := by decide +kernel
theorem dX0_partBy_41 : decode cX0_partBy 41 = .ok (.getfield 22, 3) := by decide +kernel
theorem dX0_partBy_44 : decode cX0_partBy 44 = .ok (.getfield 41, 3) := by decide +kernel
theorem dX0_partBy_47 : decode cX0_partBy 47 = .ok (.ifCond .le 55, 3) := by decide +kernel
theorem dX0_partBy_50 : decode cX0_partBy 50 = .ok (.aload_n 0, 1) := by decide +kernel
theorem dX0_partBy_51 : decode cX0_partBy 51 = .ok (.getfield 22, 3) := by decide +kernel
theorem dX0_partBy_54 : decode cX0_partBy 54 = .ok (.getfield 41, 3) := by decide +kernel
theorem dX0_partBy_57 : decode cX0_partBy 57 = .ok (.aload 4, 2) := by decide +kernel
theorem dX0_partBy_59 : decode cX0_partBy 59 = .ok (.getfield 41, 3) := by decide +kernel
theorem dX0_partBy_62 : decode cX0_partBy 62 = .ok (.if_icmp .ge 40, 3) := by decide +kernel
theorem dX0_partBy_65 : decode cX0_partBy 65 = .ok (.aload_n 0, 1) := by decide +kernel
theorem dX0_partBy_66 : decode cX0_partBy 66 = .ok (.getfield 15, 3) := by decide +kernel
theorem dX0_partBy_69 : decode cX0_partBy 69 = .ok (.aload_n 0, 1) := by decide +kernel
theorem dX0_partBy_70 : decode cX0_partBy 70 = .ok (.getfield 26, 3) := by decide +kernel
theorem dX0_partBy_73 : decode cX0_partBy 73 = .ok (.aload 4, 2) := by decide +kernel
theorem dX0_partBy_75 : decode cX0_partBy 75 = .ok (.aload_n 0, 1) := by decide +kernel
theorem dX0_partBy_76 : decode cX0_partBy 76 = .ok (.getfield 22, 3) := by decide +kernel
theorem dX0_partBy_79 : decode cX0_partBy 79 = .ok (.invokevirtual 73, 3) := by decide +kernel
theorem dX0_partBy_82 : decode cX0_partBy 82 = .ok (.aload 4, 2) := by decide +kernel
theorem dX0_partBy_84 : decode cX0_partBy 84 = .ok (.aload_n 0, 1) := by decide +kernel
theorem dX0_partBy_85 : decode cX0_partBy 85 = .ok (.getfield 22, 3) := by decide +kernel
theorem dX0_partBy_88 : decode cX0_partBy 88 = .ok (.invokevirtual 58, 3) := by decide +kernel
theorem dX0_partBy_91 : decode cX0_partBy 91 = .ok (.aload_n 0, 1) := by decide +kernel
theorem dX0_partBy_92 : decode cX0_partBy 92 = .ok (.getfield 9, 3) := by decide +kernel
theorem dX0_partBy_95 : decode cX0_partBy 95 = .ok (.aload_n 0, 1) := by decide +kernel
theorem dX0_partBy_96 : decode cX0_partBy 96 = .ok (.getfield 26, 3) := by decide +kernel
theorem dX0_partBy_99 : decode cX0_partBy 99 = .ok (.invokevirtual 76, 3) := by decide +kernel
theorem dX0_partBy_102 : decode cX0_partBy 102 = .ok (.iinc 3 1, 3) := by decide +kernel
theorem dX0_partBy_105 : decode cX0_partBy 105 = .ok (.goto (-95), 3) := by decide +kernel
theorem dX0_partBy_108 : decode cX0_partBy 108 = .ok (.aload_n 0, 1) := by decide +kernel
theorem dX0_partBy_109 : decode cX0_partBy 109 = .ok (.getfield 9, 3) := by decide +kernel
theorem dX0_partBy_112 : decode cX0_partBy 112 = .ok (.invokevirtual 79, 3) := by decide +kernel
theorem dX0_partBy_115 : decode cX0_partBy 115 = .ok (.return_, 1) := by decide +kernel
theorem dX0_joinTwo_0 : decode cX0_joinTwo 0 = .ok (.aload_n 0, 1) := by decide +kernel
theorem dX0_joinTwo_1 : decode cX0_joinTwo 1 = .ok (.getfield 15, 3) := by decide +kernel
theorem dX0_joinTwo_4 : decode cX0_joinTwo 4 = .ok (.aload_n 0, 1) := by decide +kernel
theorem dX0_joinTwo_5 : decode cX0_joinTwo 5 = .ok (.getfield 32, 3) := by decide +kernel
theorem dX0_joinTwo_8 : decode cX0_joinTwo 8 = .ok (.aload_n 0, 1) := by decide +kernel
theorem dX0_joinTwo_9 : decode cX0_joinTwo 9 = .ok (.getfield 9, 3) := by decide +kernel
theorem dX0_joinTwo_12 : decode cX0_joinTwo 12 = .ok (.getfield 50, 3) := by decide +kernel
theorem dX0_joinTwo_15 : decode cX0_joinTwo 15 = .ok (.iload_n 1, 1) := by decide +kernel
theorem dX0_joinTwo_16 : decode cX0_joinTwo 16 = .ok (.aaload, 1) := by decide +kernel
theorem dX0_joinTwo_17 : decode cX0_joinTwo 17 = .ok (.aload_n 0, 1) := by decide +kernel
theorem dX0_joinTwo_18 : decode cX0_joinTwo 18 = .ok (.getfield 9, 3) := by decide +kernel
theorem dX0_joinTwo_21 : decode cX0_joinTwo 21 = .ok (.getfield 50, 3) := by decide +kernel
theorem dX0_joinTwo_24 : decode cX0_joinTwo 24 = .ok (.iload_n 2, 1) := by decide +kernel
theorem dX0_joinTwo_25 : decode cX0_joinTwo 25 = .ok (.aaload, 1) := by decide +kernel
theorem dX0_joinTwo_26 : decode cX0_joinTwo 26 = .ok (.invokevirtual 82, 3) := by decide +kernel
theorem dX0_joinTwo_29 : decode cX0_joinTwo 29 = .ok (.aload_n 0, 1) := by decide +kernel
theorem dX0_joinTwo_30 : decode cX0_joinTwo 30 = .ok (.getfield 9, 3) := by decide +kernel
theorem dX0_joinTwo_33 : decode cX0_joinTwo 33 = .ok (.getfield 50, 3) := by decide +kernel
theorem dX0_joinTwo_36 : decode cX0_joinTwo 36 = .ok (.iload_n 1, 1) := by decide +kernel
theorem dX0_joinTwo_37 : decode cX0_joinTwo 37 = .ok (.aaload, 1) := by decide +kernel
theorem dX0_joinTwo_38 : decode cX0_joinTwo 38 = .ok (.aload_n 0, 1) := by decide +kernel
theorem dX0_joinTwo_39 : decode cX0_joinTwo 39 = .ok (.getfield 32, 3) := by decide +kernel
theorem dX0_joinTwo_42 : decode cX0_joinTwo 42 = .ok (.invokevirtual 58, 3) := by decide +kernel
theorem dX0_joinTwo_45 : decode cX0_joinTwo 45 = .ok (.aload_n 0, 1) := by decide +kernel
theorem dX0_joinTwo_46 : decode cX0_joinTwo 46 = .ok (.getfield 9, 3) := by decide +kernel
theorem dX0_joinTwo_49 : decode cX0_joinTwo 49 = .ok (.getfield 50, 3) := by decide +kernel
theorem dX0_joinTwo_52 : decode cX0_joinTwo 52 = .ok (.iload_n 2, 1) := by decide +kernel
theorem dX0_joinTwo_53 : decode cX0_joinTwo 53 = .ok (.aaload, 1) := by decide +kernel
theorem dX0_joinTwo_54 : decode cX0_joinTwo 54 = .ok (.aload_n 0, 1) := by decide +kernel
theorem dX0_joinTwo_55 : decode cX0_joinTwo 55 = .ok (.getfield 9, 3) := by decide +kernel
theorem dX0_joinTwo_58 : decode cX0_joinTwo 58 = .ok (.getfield 50, 3) := by decide +kernel
theorem dX0_joinTwo_61 : decode cX0_joinTwo 61 = .ok (.aload_n 0, 1) := by decide +kernel
theorem dX0_joinTwo_62 : decode cX0_joinTwo 62 = .ok (.getfield 9, 3) := by decide +kernel
theorem dX0_joinTwo_65 : decode cX0_joinTwo 65 = .ok (.getfield 45, 3) := by decide +kernel
theorem dX0_joinTwo_68 : decode cX0_joinTwo 68 = .ok (.iconst 1, 1) := by decide +kernel
theorem dX0_joinTwo_69 : decode cX0_joinTwo 69 = .ok (.isub, 1) := by decide +kernel
theorem dX0_joinTwo_70 : decode cX0_joinTwo 70 = .ok (.aaload, 1) := by decide +kernel
theorem dX0_joinTwo_71 : decode cX0_joinTwo 71 = .ok (.invokevirtual 58, 3) := by decide +kernel
theorem dX0_joinTwo_74 : decode cX0_joinTwo 74 = .ok (.aload_n 0, 1) := by decide +kernel
theorem dX0_joinTwo_75 : decode cX0_joinTwo 75 = .ok (.getfield 9, 3) := by decide +kernel
theorem dX0_joinTwo_78 : decode cX0_joinTwo 78 = .ok (.dup, 1) := by decide +kernel
theorem dX0_joinTwo_79 : decode cX0_joinTwo 79 = .ok (.getfield 45, 3) := by decide +kernel
theorem dX0_joinTwo_82 : decode cX0_joinTwo 82 = .ok (.iconst 1, 1) := by decide +kernel
theorem dX0_joinTwo_83 : decode cX0_joinTwo 83 = .ok (.isub, 1) := by decide +kernel
theorem dX0_joinTwo_84 : decode cX0_joinTwo 84 = .ok (.putfield 45, 3) := by decide +kernel
theorem dX0_joinTwo_87 : decode cX0_joinTwo 87 = .ok (.aload_n 0, 1) := by decide +kernel
theorem dX0_joinTwo_88 : decode cX0_joinTwo 88 = .ok (.getfield 9, 3) := by decide +kernel
theorem dX0_joinTwo_91 : decode cX0_joinTwo 91 = .ok (.invokevirtual 79, 3) := by decide +kernel
theorem dX0_joinTwo_94 : decode cX0_joinTwo 94 = .ok (.aload_n 0, 1) := by decide +kernel
theorem dX0_joinTwo_95 : decode cX0_joinTwo 95 = .ok (.aload_n 0, 1) := by decide +kernel
theorem dX0_joinTwo_96 : decode cX0_joinTwo 96 = .ok (.getfield 32, 3) := by decide +kernel
theorem dX0_joinTwo_99 : decode cX0_joinTwo 99 = .ok (.invokevirtual 85, 3) := by decide +kernel
theorem dX0_joinTwo_102 : decode cX0_joinTwo 102 = .ok (.ireturn, 1) := by decide +kernel
theorem dX0_joinByKind_0 : decode cX0_joinByKind 0 = .ok (.aload_n 0, 1) := by decide +kernel
theorem dX0_joinByKind_1 : decode cX0_joinByKind 1 = .ok (.getfield 29, 3) := by decide +kernel
theorem dX0_joinByKind_4 : decode cX0_joinByKind 4 = .ok (.iconst 1, 1) := by decide +kernel
theorem dX0_joinByKind_5 : decode cX0_joinByKind 5 = .ok (.invokevirtual 89, 3) := by decide +kernel
theorem dX0_joinByKind_8 : decode cX0_joinByKind 8 = .ok (.aload_n 0, 1) := by decide +kernel
theorem dX0_joinByKind_9 : decode cX0_joinByKind 9 = .ok (.getfield 32, 3) := by decide +kernel
theorem dX0_joinByKind_12 : decode cX0_joinByKind 12 = .ok (.iconst 1, 1) := by decide +kernel
theorem dX0_joinByKind_13 : decode cX0_joinByKind 13 = .ok (.invokevirtual 89, 3) := by decide +kernel
theorem dX0_joinByKind_16 : decode cX0_joinByKind 16 = .ok (.iconst 0, 1) := by decide +kernel
theorem dX0_joinByKind_17 : decode cX0_joinByKind 17 = .ok (.istore_n 2, 1) := by decide +kernel
theorem dX0_joinByKind_18 : decode cX0_joinByKind 18 = .ok (.iload_n 2, 1) := by decide +kernel
theorem dX0_joinByKind_19 : decode cX0_joinByKind 19 = .ok (.aload_n 0, 1) := by decide +kernel
theorem dX0_joinByKind_20 : decode cX0_joinByKind 20 = .ok (.getfield 9, 3) := by decide +kernel
theorem dX0_joinByKind_23 : decode cX0_joinByKind 23 = .ok (.getfield 45, 3) := by decide +kernel
theorem dX0_joinByKind_26 : decode cX0_joinByKind 26 = .ok (.if_icmp .ge 56, 3) := by decide +kernel
theorem dX0_joinByKind_29 : decode cX0_joinByKind 29 = .ok (.aload_n 0, 1) := by decide +kernel
theorem dX0_joinByKind_30 : decode cX0_joinByKind 30 = .ok (.aload_n 0, 1) := by decide +kernel
theorem dX0_joinByKind_31 : decode cX0_joinByKind 31 = .ok (.getfield 9, 3) := by decide +kernel
theorem dX0_joinByKind_34 : decode cX0_joinByKind 34 = .ok (.getfield 50, 3) := by decide +kernel
theorem dX0_joinByKind_37 : decode cX0_joinByKind 37 = .ok (.iload_n 2, 1) := by decide +kernel
theorem dX0_joinByKind_38 : decode cX0_joinByKind 38 = .ok (.aaload, 1) := by decide +kernel
theorem dX0_joinByKind_39 : decode cX0_joinByKind 39 = .ok (.aload_n 1, 1) := by decide +kernel
theorem dX0_joinByKind_40 : decode cX0_joinByKind 40 = .ok (.invokevirtual 54, 3) := by decide +kernel
theorem dX0_joinByKind_43 : decode cX0_joinByKind 43 = .ok (.ifCond .ne 10, 3) := by decide +kernel
theorem dX0_joinByKind_46 : decode cX0_joinByKind 46 = .ok (.aload_n 0, 1) := by decide +kernel
theorem dX0_joinByKind_47 : decode cX0_joinByKind 47 = .ok (.getfield 29, 3) := by decide +kernel
theorem dX0_joinByKind_50 : decode cX0_joinByKind 50 = .ok (.goto 7, 3) := by decide +kernel
theorem dX0_joinByKind_53 : decode cX0_joinByKind 53 = .ok (.aload_n 0, 1) := by decide +kernel
theorem dX0_joinByKind_54 : decode cX0_joinByKind 54 = .ok (.getfield 32, 3) := by decide +kernel
theorem dX0_joinByKind_57 : decode cX0_joinByKind 57 = .ok (.astore_n 3, 1) := by decide +kernel
theorem dX0_joinByKind_58 : decode cX0_joinByKind 58 = .ok (.aload_n 0, 1) := by decide +kernel
theorem dX0_joinByKind_59 : decode cX0_joinByKind 59 = .ok (.getfield 15, 3) := by decide +kernel
theorem dX0_joinByKind_62 : decode cX0_joinByKind 62 = .ok (.aload_n 3, 1) := by decide +kernel
theorem dX0_joinByKind_63 : decode cX0_joinByKind 63 = .ok (.aload_n 3, 1) := by decide +kernel
theorem dX0_joinByKind_64 : decode cX0_joinByKind 64 = .ok (.aload_n 0, 1) := by decide +kernel
theorem dX0_joinByKind_65 : decode cX0_joinByKind 65 = .ok (.getfield 9, 3) := by decide +kernel
theorem dX0_joinByKind_68 : decode cX0_joinByKind 68 = .ok (.getfield 50, 3) := by decide +kernel
theorem dX0_joinByKind_71 : decode cX0_joinByKind 71 = .ok (.iload_n 2, 1) := by decide +kernel
theorem dX0_joinByKind_72 : decode cX0_joinByKind 72 = .ok (.aaload, 1) := by decide +kernel
theorem dX0_joinByKind_73 : decode cX0_joinByKind 73 = .ok (.invokevirtual 82, 3) := by decide +kernel
theorem dX0_joinByKind_76 : decode cX0_joinByKind 76 = .ok (.iinc 2 1, 3) := by decide +kernel
theorem dX0_joinByKind_79 : decode cX0_joinByKind 79 = .ok (.goto (-61), 3) := by decide +kernel
theorem dX0_joinByKind_82 : decode cX0_joinByKind 82 = .ok (.aload_n 0, 1) := by decide +kernel
theorem dX0_joinByKind_83 : decode cX0_joinByKind 83 = .ok (.getfield 9, 3) := by decide +kernel
theorem dX0_joinByKind_86 : decode cX0_joinByKind 86 = .ok (.iconst 0, 1) := by decide +kernel
theorem dX0_joinByKind_87 : decode cX0_joinByKind 87 = .ok (.putfield 45, 3) := by decide +kernel
theorem dX0_joinByKind_90 : decode cX0_joinByKind 90 = .ok (.aload_n 0, 1) := by decide +kernel
theorem dX0_joinByKind_91 : decode cX0_joinByKind 91 = .ok (.getfield 29, 3) := by decide +kernel
theorem dX0_joinByKind_94 : decode cX0_joinByKind 94 = .ok (.getfield 41, 3) := by decide +kernel
theorem dX0_joinByKind_97 : decode cX0_joinByKind 97 = .ok (.ifCond .le 14, 3) := by decide +kernel
theorem dX0_joinByKind_100 : decode cX0_joinByKind 100 = .ok (.aload_n 0, 1) := by decide +kernel
theorem dX0_joinByKind_101 : decode cX0_joinByKind 101 = .ok (.getfield 9, 3) := by decide +kernel
theorem dX0_joinByKind_104 : decode cX0_joinByKind 104 = .ok (.aload_n 0, 1) := by decide +kernel
theorem dX0_joinByKind_105 : decode cX0_joinByKind 105 = .ok (.getfield 29, 3) := by decide +kernel
theorem dX0_joinByKind_108 : decode cX0_joinByKind 108 = .ok (.invokevirtual 76, 3) := by decide +kernel
theorem dX0_joinByKind_111 : decode cX0_joinByKind 111 = .ok (.aload_n 0, 1) := by decide +kernel
theorem dX0_joinByKind_112 : decode cX0_joinByKind 112 = .ok (.getfield 32, 3) := by decide +kernel
theorem dX0_joinByKind_115 : decode cX0_joinByKind 115 = .ok (.getfield 41, 3) := by decide +kernel
theorem dX0_joinByKind_118 : decode cX0_joinByKind 118 = .ok (.ifCond .le 14, 3) := by decide +kernel
theorem dX0_joinByKind_121 : decode cX0_joinByKind 121 = .ok (.aload_n 0, 1) := by decide +kernel
theorem dX0_joinByKind_122 : decode cX0_joinByKind 122 = .ok (.getfield 9, 3) := by decide +kernel
theorem dX0_joinByKind_125 : decode cX0_joinByKind 125 = .ok (.aload_n 0, 1) := by decide +kernel
theorem dX0_joinByKind_126 : decode cX0_joinByKind 126 = .ok (.getfield 32, 3) := by decide +kernel
theorem dX0_joinByKind_129 : decode cX0_joinByKind 129 = .ok (.invokevirtual 76, 3) := by decide +kernel
theorem dX0_joinByKind_132 : decode cX0_joinByKind 132 = .ok (.aload_n 0, 1) := by decide +kernel
theorem dX0_joinByKind_133 : decode cX0_joinByKind 133 = .ok (.getfield 9, 3) := by decide +kernel
theorem dX0_joinByKind_136 : decode cX0_joinByKind 136 = .ok (.invokevirtual 79, 3) := by decide +kernel
theorem dX0_joinByKind_139 : decode cX0_joinByKind 139 = .ok (.return_, 1) := by decide +kernel
theorem dX0_findBranch_0 : decode cX0_findBranch 0 = .ok (.iconst 0, 1) := by decide +kernel
theorem dX0_findBranch_1 : decode cX0_findBranch 1 = .ok (.istore_n 2, 1) := by decide +kernel
theorem dX0_findBranch_2 : decode cX0_findBranch 2 = .ok (.iload_n 2, 1) := by decide +kernel
theorem dX0_findBranch_3 : decode cX0_findBranch 3 = .ok (.aload_n 0, 1) := by decide +kernel
theorem dX0_findBranch_4 : decode cX0_findBranch 4 = .ok (.getfield 9, 3) := by decide +kernel
theorem dX0_findBranch_7 : decode cX0_findBranch 7 = .ok (.getfield 45, 3) := by decide +kernel
theorem dX0_findBranch_10 : decode cX0_findBranch 10 = .ok (.if_icmp .ge 27, 3) := by decide +kernel
theorem dX0_findBranch_13 : decode cX0_findBranch 13 = .ok (.aload_n 0, 1) := by decide +kernel
theorem dX0_findBranch_14 : decode cX0_findBranch 14 = .ok (.getfield 9, 3) := by decide +kernel
theorem dX0_findBranch_17 : decode cX0_findBranch 17 = .ok (.getfield 50, 3) := by decide +kernel
theorem dX0_findBranch_20 : decode cX0_findBranch 20 = .ok (.iload_n 2, 1) := by decide +kernel
theorem dX0_findBranch_21 : decode cX0_findBranch 21 = .ok (.aaload, 1) := by decide +kernel
theorem dX0_findBranch_22 : decode cX0_findBranch 22 = .ok (.aload_n 1, 1) := by decide +kernel
theorem dX0_findBranch_23 : decode cX0_findBranch 23 = .ok (.invokevirtual 93, 3) := by decide +kernel
theorem dX0_findBranch_26 : decode cX0_findBranch 26 = .ok (.ifCond .eq 5, 3) := by decide +kernel
theorem dX0_findBranch_29 : decode cX0_findBranch 29 = .ok (.iload_n 2, 1) := by decide +kernel
theorem dX0_findBranch_30 : decode cX0_findBranch 30 = .ok (.ireturn, 1) := by decide +kernel
theorem dX0_findBranch_31 : decode cX0_findBranch 31 = .ok (.iinc 2 1, 3) := by decide +kernel
theorem dX0_findBranch_34 : decode cX0_findBranch 34 = .ok (.goto (-32), 3) := by decide +kernel
theorem dX0_findBranch_37 : decode cX0_findBranch 37 = .ok (.iconst (-1), 1) := by decide +kernel
theorem dX0_findBranch_38 : decode cX0_findBranch 38 = .ok (.ireturn, 1) := by decide +kernel
theorem dX1_init_0 : decode cX1_init 0 = .ok (.aload_n 0, 1) := by decide +kernel
theorem dX1_init_1 : decode cX1_init 1 = .ok (.invokespecial 3, 3) := by decide +kernel
theorem dX1_init_4 : decode cX1_init 4 = .ok (.aload_n 0, 1) := by decide +kernel
theorem dX1_init_5 : decode cX1_init 5 = .ok (.aload_n 1, 1) := by decide +kernel
theorem dX1_init_6 : decode cX1_init 6 = .ok (.putfield 9, 3) := by decide +kernel
theorem dX1_init_9 : decode cX1_init 9 = .ok (.aload_n 0, 1) := by decide +kernel
theorem dX1_init_10 : decode cX1_init 10 = .ok (.aload_n 2, 1) := by decide +kernel
theorem dX1_init_11 : decode cX1_init 11 = .ok (.putfield 15, 3) := by decide +kernel
theorem dX1_init_14 : decode cX1_init 14 = .ok (.aload_n 0, 1) := by decide +kernel
theorem dX1_init_15 : decode cX1_init 15 = .ok (.aload_n 3, 1) := by decide +kernel
theorem dX1_init_16 : decode cX1_init 16 = .ok (.putfield 19, 3) := by decide +kernel
theorem dX1_init_19 : decode cX1_init 19 = .ok (.aload_n 0, 1) := by decide +kernel
theorem dX1_init_20 : decode cX1_init 20 = .ok (.bipush 7, 2) := by decide +kernel
theorem dX1_init_22 : decode cX1_init 22 = .ok (.anewarray 23, 3) := by decide +kernel
theorem dX1_init_25 : decode cX1_init 25 = .ok (.putfield 25, 3) := by decide +kernel
theorem dX1_init_28 : decode cX1_init 28 = .ok (.iconst 0, 1) := by decide +kernel
theorem dX1_init_29 : decode cX1_init 29 = .ok (.istore 4, 2) := by decide +kernel
theorem dX1_init_31 : decode cX1_init 31 = .ok (.iload 4, 2) := by decide +kernel
theorem dX1_init_33 : decode cX1_init 33 = .ok (.bipush 6, 2) := by decide +kernel
theorem dX1_init_35 : decode cX1_init 35 = .ok (.if_icmp .gt 23, 3) := by decide +kernel
theorem dX1_init_38 : decode cX1_init 38 = .ok (.aload_n 0, 1) := by decide +kernel
theorem dX1_init_39 : decode cX1_init 39 = .ok (.getfield 25, 3) := by decide +kernel
theorem dX1_init_42 : decode cX1_init 42 = .ok (.iload 4, 2) := by decide +kernel
theorem dX1_init_44 : decode cX1_init 44 = .ok (.new 23, 3) := by decide +kernel
theorem dX1_init_47 : decode cX1_init 47 = .ok (.dup, 1) := by decide +kernel
theorem dX1_init_48 : decode cX1_init 48 = .ok (.invokespecial 29, 3) := by decide +kernel
theorem dX1_init_51 : decode cX1_init 51 = .ok (.aastore, 1) := by decide +kernel
theorem dX1_init_52 : decode cX1_init 52 = .ok (.iinc 4 1, 3) := by decide +kernel
theorem dX1_init_55 : decode cX1_init 55 = .ok (.goto (-24), 3) := by decide +kernel
theorem dX1_init_58 : decode cX1_init 58 = .ok (.aload_n 0, 1) := by decide +kernel
theorem dX1_init_59 : decode cX1_init 59 = .ok (.new 23, 3) := by decide +kernel
theorem dX1_init_62 : decode cX1_init 62 = .ok (.dup, 1) := by decide +kernel
theorem dX1_init_63 : decode cX1_init 63 = .ok (.invokespecial 29, 3) := by decide +kernel
theorem dX1_init_66 : decode cX1_init 66 = .ok (.putfield 30, 3) := by decide +kernel
theorem dX1_init_69 : decode cX1_init 69 = .ok (.aload_n 0, 1) := by decide +kernel
theorem dX1_init_70 : decode cX1_init 70 = .ok (.new 23, 3) := by decide +kernel
theorem dX1_init_73 : decode cX1_init 73 = .ok (.dup, 1) := by decide +kernel
theorem dX1_init_74 : decode cX1_init 74 = .ok (.invokespecial 29, 3) := by decide +kernel
theorem dX1_init_77 : decode cX1_init 77 = .ok (.putfield 34, 3) := by decide +kernel
theorem dX1_init_80 : decode cX1_init 80 = .ok (.aload_n 0, 1) := by decide +kernel
theorem dX1_init_81 : decode cX1_init 81 = .ok (.new 23, 3) := by decide +kernel
theorem dX1_init_84 : decode cX1_init 84 = .ok (.dup, 1) := by decide +kernel
theorem dX1_init_85 : decode cX1_init 85 = .ok (.invokespecial 29, 3) := by decide +kernel
theorem dX1_init_88 : decode cX1_init 88 = .ok (.putfield 37, 3) := by decide +kernel
theorem dX1_init_91 : decode cX1_init 91 = .ok (.aload_n 0, 1) := by decide +kernel
theorem dX1_init_92 : decode cX1_init 92 = .ok (.new 23, 3) := by decide +kernel
theorem dX1_init_95 : decode cX1_init 95 = .ok (.dup, 1) := by decide +kernel
theorem dX1_init_96 : decode cX1_init 96 = .ok (.invokespecial 29, 3) := by decide +kernel
theorem dX1_init_99 : decode cX1_init 99 = .ok (.putfield 40, 3) := by decide +kernel
theorem dX1_init_102 : decode cX1_init 102 = .ok (.return_, 1) := by decide +kernel
theorem dX1_find_0 : decode cX1_find 0 = .ok (.aload_n 0, 1) := by decide +kernel
theorem dX1_find_1 : decode cX1_find 1 = .ok (.getfield 30, 3) := by decide +kernel
theorem dX1_find_4 : decode cX1_find 4 = .ok (.aload_n 0, 1) := by decide +kernel
theorem dX1_find_5 : decode cX1_find 5 = .ok (.getfield 9, 3) := by decide +kernel
theorem dX1_find_8 : decode cX1_find 8 = .ok (.getfield 43, 3) := by decide +kernel
theorem dX1_find_11 : decode cX1_find 11 = .ok (.invokevirtual 48, 3) := by decide +kernel
theorem dX1_find_14 : decode cX1_find 14 = .ok (.aload_n 0, 1) := by decide +kernel
theorem dX1_find_15 : decode cX1_find 15 = .ok (.getfield 40, 3) := by decide +kernel
theorem dX1_find_18 : decode cX1_find 18 = .ok (.invokevirtual 52, 3) := by decide +kernel
theorem dX1_find_21 : decode cX1_find 21 = .ok (.aload_n 0, 1) := by decide +kernel
theorem dX1_find_22 : decode cX1_find 22 = .ok (.getfield 19, 3) := by decide +kernel
theorem dX1_find_25 : decode cX1_find 25 = .ok (.aload_n 0, 1) := by decide +kernel
theorem dX1_find_26 : decode cX1_find 26 = .ok (.getfield 34, 3) := by decide +kernel
theorem dX1_find_29 : decode cX1_find 29 = .ok (.invokevirtual 55, 3) := by decide +kernel
theorem dX1_find_32 : decode cX1_find 32 = .ok (.iconst 1, 1) := by decide +kernel
theorem dX1_find_33 : decode cX1_find 33 = .ok (.istore_n 1, 1) := by decide +kernel
theorem dX1_find_34 : decode cX1_find 34 = .ok (.iload_n 1, 1) := by decide +kernel
theorem dX1_find_35 : decode cX1_find 35 = .ok (.bipush 6, 2) := by decide +kernel
theorem dX1_find_37 : decode cX1_find 37 = .ok (.if_icmp .gt 100, 3) := by decide +kernel
theorem dX1_find_40 : decode cX1_find 40 = .ok (.aload_n 0, 1) := by decide +kernel
theorem dX1_find_41 : decode cX1_find 41 = .ok (.getfield 19, 3) := by decide +kernel
theorem dX1_find_44 : decode cX1_find 44 = .ok (.aload_n 0, 1) := by decide +kernel
theorem dX1_find_45 : decode cX1_find 45 = .ok (.getfield 34, 3) := by decide +kernel
theorem dX1_find_48 : decode cX1_find 48 = .ok (.aload_n 0, 1) := by decide +kernel
theorem dX1_find_49 : decode cX1_find 49 = .ok (.getfield 34, 3) := by decide +kernel
theorem dX1_find_52 : decode cX1_find 52 = .ok (.aload_n 0, 1) := by decide +kernel
theorem dX1_find_53 : decode cX1_find 53 = .ok (.getfield 9, 3) := by decide +kernel
theorem dX1_find_56 : decode cX1_find 56 = .ok (.getfield 59, 3) := by decide +kernel
theorem dX1_find_59 : decode cX1_find 59 = .ok (.invokevirtual 63, 3) := by decide +kernel
theorem dX1_find_62 : decode cX1_find 62 = .ok (.aload_n 0, 1) := by decide +kernel
theorem dX1_find_63 : decode cX1_find 63 = .ok (.getfield 37, 3) := by decide +kernel
theorem dX1_find_66 : decode cX1_find 66 = .ok (.aload_n 0, 1) := by decide +kernel
theorem dX1_find_67 : decode cX1_find 67 = .ok (.getfield 34, 3) := by decide +kernel
theorem dX1_find_70 : decode cX1_find 70 = .ok (.invokevirtual 48, 3) := by decide +kernel
theorem dX1_find_73 : decode cX1_find 73 = .ok (.aload_n 0, 1) := by decide +kernel
theorem dX1_find_74 : decode cX1_find 74 = .ok (.getfield 19, 3) := by decide +kernel
theorem dX1_find_77 : decode cX1_find 77 = .ok (.aload_n 0, 1) := by decide +kernel
theorem dX1_find_78 : decode cX1_find 78 = .ok (.getfield 37, 3) := by decide +kernel
theorem dX1_find_81 : decode cX1_find 81 = .ok (.aload_n 0, 1) := by decide +kernel
theorem dX1_find_82 : decode cX1_find 82 = .ok (.getfield 40, 3) := by decide +kernel
theorem dX1_find_85 : decode cX1_find 85 = .ok (.iconst 1, 1) := by decide +kernel
theorem dX1_find_86 : decode cX1_find 86 = .ok (.invokevirtual 67, 3) := by decide +kernel
theorem dX1_find_89 : decode cX1_find 89 = .ok (.aload_n 0, 1) := by decide +kernel
theorem dX1_find_90 : decode cX1_find 90 = .ok (.getfield 15, 3) := by decide +kernel
theorem dX1_find_93 : decode cX1_find 93 = .ok (.aload_n 0, 1) := by decide +kernel
theorem dX1_find_94 : decode cX1_find 94 = .ok (.getfield 25, 3) := by decide +kernel
theorem dX1_find_97 : decode cX1_find 97 = .ok (.iload_n 1, 1) := by decide +kernel
theorem dX1_find_98 : decode cX1_find 98 = .ok (.aaload, 1) := by decide +kernel
theorem dX1_find_99 : decode cX1_find 99 = .ok (.aload_n 0, 1) := by decide +kernel
theorem dX1_find_100 : decode cX1_find 100 = .ok (.getfield 30, 3) := by decide +kernel
theorem dX1_find_103 : decode cX1_find 103 = .ok (.aload_n 0, 1) := by decide +kernel
theorem dX1_find_104 : decode cX1_find 104 = .ok (.getfield 37, 3) := by decide +kernel
theorem dX1_find_107 : decode cX1_find 107 = .ok (.invokevirtual 71, 3) := by decide +kernel
theorem dX1_find_110 : decode cX1_find 110 = .ok (.aload_n 0, 1) := by decide +kernel
theorem dX1_find_111 : decode cX1_find 111 = .ok (.getfield 15, 3) := by decide +kernel
theorem dX1_find_114 : decode cX1_find 114 = .ok (.aload_n 0, 1) := by decide +kernel
theorem dX1_find_115 : decode cX1_find 115 = .ok (.getfield 30, 3) := by decide +kernel
theorem dX1_find_118 : decode cX1_find 118 = .ok (.aload_n 0, 1) := by decide +kernel
theorem dX1_find_119 : decode cX1_find 119 = .ok (.getfield 30, 3) := by decide +kernel
theorem dX1_find_122 : decode cX1_find 122 = .ok (.aload_n 0, 1) := by decide +kernel
theorem dX1_find_123 : decode cX1_find 123 = .ok (.getfield 25, 3) := by decide +kernel
theorem dX1_find_126 : decode cX1_find 126 = .ok (.iload_n 1, 1) := by decide +kernel
theorem dX1_find_127 : decode cX1_find 127 = .ok (.aaload, 1) := by decide +kernel
theorem dX1_find_128 : decode cX1_find 128 = .ok (.invokevirtual 77, 3) := by decide +kernel
theorem dX1_find_131 : decode cX1_find 131 = .ok (.iinc 1 1, 3) := by decide +kernel
theorem dX1_find_134 : decode cX1_find 134 = .ok (.goto (-100), 3) := by decide +kernel
theorem dX1_find_137 : decode cX1_find 137 = .ok (.return_, 1) := by decide +kernel
theorem dX1_factorsOf_0 : decode cX1_factorsOf 0 = .ok (.iload_n 1, 1) := by decide +kernel
theorem dX1_factorsOf_1 : decode cX1_factorsOf 1 = .ok (.iconst 1, 1) := by decide +kernel
theorem dX1_factorsOf_2 : decode cX1_factorsOf 2 = .ok (.if_icmp .lt 9, 3) := by decide +kernel
theorem dX1_factorsOf_5 : decode cX1_factorsOf 5 = .ok (.iload_n 1, 1) := by decide +kernel
theorem dX1_factorsOf_6 : decode cX1_factorsOf 6 = .ok (.bipush 6, 2) := by decide +kernel
theorem dX1_factorsOf_8 : decode cX1_factorsOf 8 = .ok (.if_icmp .le 7, 3) := by decide +kernel
theorem dX1_factorsOf_11 : decode cX1_factorsOf 11 = .ok (.iconst 0, 1) := by decide +kernel
theorem dX1_factorsOf_12 : decode cX1_factorsOf 12 = .ok (.goto 14, 3) := by decide +kernel
theorem dX1_factorsOf_15 : decode cX1_factorsOf 15 = .ok (.aload_n 0, 1) := by decide +kernel
theorem dX1_factorsOf_16 : decode cX1_factorsOf 16 = .ok (.getfield 25, 3) := by decide +kernel
theorem dX1_factorsOf_19 : decode cX1_factorsOf 19 = .ok (.iload_n 1, 1) := by decide +kernel
theorem dX1_factorsOf_20 : decode cX1_factorsOf 20 = .ok (.aaload, 1) := by decide +kernel
theorem dX1_factorsOf_21 : decode cX1_factorsOf 21 = .ok (.getfield 80, 3) := by decide +kernel
theorem dX1_factorsOf_24 : decode cX1_factorsOf 24 = .ok (.iload_n 1, 1) := by decide +kernel
theorem dX1_factorsOf_25 : decode cX1_factorsOf 25 = .ok (.idiv, 1) := by decide +kernel
theorem dX1_factorsOf_26 : decode cX1_factorsOf 26 = .ok (.ireturn, 1) := by decide +kernel
theorem dX1_allFactors_0 : decode cX1_allFactors 0 = .ok (.iconst 0, 1) := by decide +kernel
theorem dX1_allFactors_1 : decode cX1_allFactors 1 = .ok (.istore_n 1, 1) := by decide +kernel
theorem dX1_allFactors_2 : decode cX1_allFactors 2 = .ok (.iconst 1, 1) := by decide +kernel
theorem dX1_allFactors_3 : decode cX1_allFactors 3 = .ok (.istore_n 2, 1) := by decide +kernel
theorem dX1_allFactors_4 : decode cX1_allFactors 4 = .ok (.iload_n 2, 1) := by decide +kernel
theorem dX1_allFactors_5 : decode cX1_allFactors 5 = .ok (.bipush 6, 2) := by decide +kernel
theorem dX1_allFactors_7 : decode cX1_allFactors 7 = .ok (.if_icmp .gt 17, 3) := by decide +kernel
theorem dX1_allFactors_10 : decode cX1_allFactors 10 = .ok (.iload_n 1, 1) := by decide +kernel
theorem dX1_allFactors_11 : decode cX1_allFactors 11 = .ok (.aload_n 0, 1) := by decide +kernel
theorem dX1_allFactors_12 : decode cX1_allFactors 12 = .ok (.iload_n 2, 1) := by decide +kernel
theorem dX1_allFactors_13 : decode cX1_allFactors 13 = .ok (.invokevirtual 83, 3) := by decide +kernel
theorem dX1_allFactors_16 : decode cX1_allFactors 16 = .ok (.iadd, 1) := by decide +kernel
theorem dX1_allFactors_17 : decode cX1_allFactors 17 = .ok (.istore_n 1, 1) := by decide +kernel
theorem dX1_allFactors_18 : decode cX1_allFactors 18 = .ok (.iinc 2 1, 3) := by decide +kernel
theorem dX1_allFactors_21 : decode cX1_allFactors 21 = .ok (.goto (-17), 3) := by decide +kernel
theorem dX1_allFactors_24 : decode cX1_allFactors 24 = .ok (.iload_n 1, 1) := by decide +kernel
theorem dX1_allFactors_25 : decode cX1_allFactors 25 = .ok (.ireturn, 1) := by decide +kernel
theorem dX1_commonExponent_0 : decode cX1_commonExponent 0 = .ok (.iconst 1, 1) := by decide +kernel
theorem dX1_commonExponent_1 : decode cX1_commonExponent 1 = .ok (.istore_n 1, 1) := by decide +kernel
theorem dX1_commonExponent_2 : decode cX1_commonExponent 2 = .ok (.iconst 1, 1) := by decide +kernel
theorem dX1_commonExponent_3 : decode cX1_commonExponent 3 = .ok (.istore_n 2, 1) := by decide +kernel
theorem dX1_commonExponent_4 : decode cX1_commonExponent 4 = .ok (.iconst 1, 1) := by decide +kernel
theorem dX1_commonExponent_5 : decode cX1_commonExponent 5 = .ok (.istore_n 3, 1) := by decide +kernel
theorem dX1_commonExponent_6 : decode cX1_commonExponent 6 = .ok (.iload_n 3, 1) := by decide +kernel
theorem dX1_commonExponent_7 : decode cX1_commonExponent 7 = .ok (.bipush 6, 2) := by decide +kernel
theorem dX1_commonExponent_9 : decode cX1_commonExponent 9 = .ok (.if_icmp .gt 35, 3) := by decide +kernel
theorem dX1_commonExponent_12 : decode cX1_commonExponent 12 = .ok (.iload_n 2, 1) := by decide +kernel
theorem dX1_commonExponent_13 : decode cX1_commonExponent 13 = .ok (.aload_n 0, 1) := by decide +kernel
theorem dX1_commonExponent_14 : decode cX1_commonExponent 14 = .ok (.getfield 9, 3) := by decide +kernel
theorem dX1_commonExponent_17 : decode cX1_commonExponent 17 = .ok (.getfield 59, 3) := by decide +kernel
theorem dX1_commonExponent_20 : decode cX1_commonExponent 20 = .ok (.imul, 1) := by decide +kernel
theorem dX1_commonExponent_21 : decode cX1_commonExponent 21 = .ok (.istore_n 2, 1) := by decide +kernel
theorem dX1_commonExponent_22 : decode cX1_commonExponent 22 = .ok (.aload_n 0, 1) := by decide +kernel
theorem dX1_commonExponent_23 : decode cX1_commonExponent 23 = .ok (.iload_n 3, 1) := by decide +kernel
theorem dX1_commonExponent_24 : decode cX1_commonExponent 24 = .ok (.invokevirtual 83, 3) := by decide +kernel
theorem dX1_commonExponent_27 : decode cX1_commonExponent 27 = .ok (.ifCond .le 11, 3) := by decide +kernel
theorem dX1_commonExponent_30 : decode cX1_commonExponent 30 = .ok (.iload_n 1, 1) := by decide +kernel
theorem dX1_commonExponent_31 : decode cX1_commonExponent 31 = .ok (.iload_n 2, 1) := by decide +kernel
theorem dX1_commonExponent_32 : decode cX1_commonExponent 32 = .ok (.iconst 1, 1) := by decide +kernel
theorem dX1_commonExponent_33 : decode cX1_commonExponent 33 = .ok (.isub, 1) := by decide +kernel
theorem dX1_commonExponent_34 : decode cX1_commonExponent 34 = .ok (.invokestatic 87, 3) := by decide +kernel
theorem dX1_commonExponent_37 : decode cX1_commonExponent 37 = .ok (.istore_n 1, 1) := by decide +kernel
theorem dX1_commonExponent_38 : decode cX1_commonExponent 38 = .ok (.iinc 3 1, 3) := by decide +kernel
theorem dX1_commonExponent_41 : decode cX1_commonExponent 41 = .ok (.goto (-35), 3) := by decide +kernel
theorem dX1_commonExponent_44 : decode cX1_commonExponent 44 = .ok (.iload_n 1, 1) := by decide +kernel
theorem dX1_commonExponent_45 : decode cX1_commonExponent 45 = .ok (.ireturn, 1) := by decide +kernel
theorem dX1_leastMultiple_0 : decode cX1_leastMultiple 0 = .ok (.iload_n 0, 1) := by decide +kernel
theorem dX1_leastMultiple_1 : decode cX1_leastMultiple 1 = .ok (.istore_n 2, 1) := by decide +kernel
theorem dX1_leastMultiple_2 : decode cX1_leastMultiple 2 = .ok (.iload_n 1, 1) := by decide +kernel
theorem dX1_leastMultiple_3 : decode cX1_leastMultiple 3 = .ok (.istore_n 3, 1) := by decide +kernel
theorem dX1_leastMultiple_4 : decode cX1_leastMultiple 4 = .ok (.iconst 0, 1) := by decide +kernel
theorem dX1_leastMultiple_5 : decode cX1_leastMultiple 5 = .ok (.istore 4, 2) := by decide +kernel
theorem dX1_leastMultiple_7 : decode cX1_leastMultiple 7 = .ok (.iload 4, 2) := by decide +kernel
theorem dX1_leastMultiple_9 : decode cX1_leastMultiple 9 = .ok (.bipush 64, 2) := by decide +kernel
theorem dX1_leastMultiple_11 : decode cX1_leastMultiple 11 = .ok (.if_icmp .ge 23, 3) := by decide +kernel
theorem dX1_leastMultiple_14 : decode cX1_leastMultiple 14 = .ok (.iload_n 3, 1) := by decide +kernel
theorem dX1_leastMultiple_15 : decode cX1_leastMultiple 15 = .ok (.ifCond .le 19, 3) := by decide +kernel
theorem dX1_leastMultiple_18 : decode cX1_leastMultiple 18 = .ok (.iload_n 2, 1) := by decide +kernel
theorem dX1_leastMultiple_19 : decode cX1_leastMultiple 19 = .ok (.iload_n 3, 1) := by decide +kernel
theorem dX1_leastMultiple_20 : decode cX1_leastMultiple 20 = .ok (.irem, 1) := by decide +kernel
theorem dX1_leastMultiple_21 : decode cX1_leastMultiple 21 = .ok (.istore 5, 2) := by decide +kernel
theorem dX1_leastMultiple_23 : decode cX1_leastMultiple 23 = .ok (.iload_n 3, 1) := by decide +kernel
theorem dX1_leastMultiple_24 : decode cX1_leastMultiple 24 = .ok (.istore_n 2, 1) := by decide +kernel
theorem dX1_leastMultiple_25 : decode cX1_leastMultiple 25 = .ok (.iload 5, 2) := by decide +kernel
theorem dX1_leastMultiple_27 : decode cX1_leastMultiple 27 = .ok (.istore_n 3, 1) := by decide +kernel
theorem dX1_leastMultiple_28 : decode cX1_leastMultiple 28 = .ok (.iinc 4 1, 3) := by decide +kernel
theorem dX1_leastMultiple_31 : decode cX1_leastMultiple 31 = .ok (.goto (-24), 3) := by decide +kernel
theorem dX1_leastMultiple_34 : decode cX1_leastMultiple 34 = .ok (.iload_n 2, 1) := by decide +kernel
theorem dX1_leastMultiple_35 : decode cX1_leastMultiple 35 = .ok (.ifCond .le 11, 3) := by decide +kernel
theorem dX1_leastMultiple_38 : decode cX1_leastMultiple 38 = .ok (.iload_n 0, 1) := by decide +kernel
theorem dX1_leastMultiple_39 : decode cX1_leastMultiple 39 = .ok (.iload_n 2, 1) := by decide +kernel
theorem dX1_leastMultiple_40 : decode cX1_leastMultiple 40 = .ok (.idiv, 1) := by decide +kernel
theorem dX1_leastMultiple_41 : decode cX1_leastMultiple 41 = .ok (.iload_n 1, 1) := by decide +kernel
theorem dX1_leastMultiple_42 : decode cX1_leastMultiple 42 = .ok (.imul, 1) := by decide +kernel
theorem dX1_leastMultiple_43 : decode cX1_leastMultiple 43 = .ok (.goto 4, 3) := by decide +kernel
theorem dX1_leastMultiple_46 : decode cX1_leastMultiple 46 = .ok (.iload_n 0, 1) := by decide +kernel
theorem dX1_leastMultiple_47 : decode cX1_leastMultiple 47 = .ok (.ireturn, 1) := by decide +kernel
theorem dX2_init_0 : decode cX2_init 0 = .ok (.aload_n 0, 1) := by decide +kernel
theorem dX2_init_1 : decode cX2_init 1 = .ok (.invokespecial 1, 3) := by decide +kernel
theorem dX2_init_4 : decode cX2_init 4 = .ok (.aload_n 0, 1) := by decide +kernel
theorem dX2_init_5 : decode cX2_init 5 = .ok (.aload_n 1, 1) := by decide +kernel
theorem dX2_init_6 : decode cX2_init 6 = .ok (.putfield 7, 3) := by decide +kernel
theorem dX2_init_9 : decode cX2_init 9 = .ok (.aload_n 0, 1) := by decide +kernel
theorem dX2_init_10 : decode cX2_init 10 = .ok (.new 13, 3) := by decide +kernel
theorem dX2_init_13 : decode cX2_init 13 = .ok (.dup, 1) := by decide +kernel
theorem dX2_init_14 : decode cX2_init 14 = .ok (.invokespecial 15, 3) := by decide +kernel
theorem dX2_init_17 : decode cX2_init 17 = .ok (.putfield 16, 3) := by decide +kernel
theorem dX2_init_20 : decode cX2_init 20 = .ok (.aload_n 0, 1) := by decide +kernel
theorem dX2_init_21 : decode cX2_init 21 = .ok (.new 13, 3) := by decide +kernel
theorem dX2_init_24 : decode cX2_init 24 = .ok (.dup, 1) := by decide +kernel
theorem dX2_init_25 : decode cX2_init 25 = .ok (.invokespecial 15, 3) := by decide +kernel
theorem dX2_init_28 : decode cX2_init 28 = .ok (.putfield 20, 3) := by decide +kernel
theorem dX2_init_31 : decode cX2_init 31 = .ok (.aload_n 0, 1) := by decide +kernel
theorem dX2_init_32 : decode cX2_init 32 = .ok (.new 13, 3) := by decide +kernel
theorem dX2_init_35 : decode cX2_init 35 = .ok (.dup, 1) := by decide +kernel
theorem dX2_init_36 : decode cX2_init 36 = .ok (.invokespecial 15, 3) := by decide +kernel
theorem dX2_init_39 : decode cX2_init 39 = .ok (.putfield 23, 3) := by decide +kernel
theorem dX2_init_42 : decode cX2_init 42 = .ok (.aload_n 0, 1) := by decide +kernel
theorem dX2_init_43 : decode cX2_init 43 = .ok (.new 13, 3) := by decide +kernel
theorem dX2_init_46 : decode cX2_init 46 = .ok (.dup, 1) := by decide +kernel
theorem dX2_init_47 : decode cX2_init 47 = .ok (.invokespecial 15, 3) := by decide +kernel
theorem dX2_init_50 : decode cX2_init 50 = .ok (.putfield 26, 3) := by decide +kernel
theorem dX2_init_53 : decode cX2_init 53 = .ok (.aload_n 0, 1) := by decide +kernel
theorem dX2_init_54 : decode cX2_init 54 = .ok (.new 13, 3) := by decide +kernel
theorem dX2_init_57 : decode cX2_init 57 = .ok (.dup, 1) := by decide +kernel
theorem dX2_init_58 : decode cX2_init 58 = .ok (.invokespecial 15, 3) := by decide +kernel
theorem dX2_init_61 : decode cX2_init 61 = .ok (.putfield 29, 3) := by decide +kernel
theorem dX2_init_64 : decode cX2_init 64 = .ok (.aload_n 0, 1) := by decide +kernel
theorem dX2_init_65 : decode cX2_init 65 = .ok (.new 13, 3) := by decide +kernel
theorem dX2_init_68 : decode cX2_init 68 = .ok (.dup, 1) := by decide +kernel
theorem dX2_init_69 : decode cX2_init 69 = .ok (.invokespecial 15, 3) := by decide +kernel
theorem dX2_init_72 : decode cX2_init 72 = .ok (.putfield 32, 3) := by decide +kernel
theorem dX2_init_75 : decode cX2_init 75 = .ok (.aload_n 0, 1) := by decide +kernel
theorem dX2_init_76 : decode cX2_init 76 = .ok (.new 13, 3) := by decide +kernel
theorem dX2_init_79 : decode cX2_init 79 = .ok (.dup, 1) := by decide +kernel
theorem dX2_init_80 : decode cX2_init 80 = .ok (.invokespecial 15, 3) := by decide +kernel
theorem dX2_init_83 : decode cX2_init 83 = .ok (.putfield 35, 3) := by decide +kernel
theorem dX2_init_86 : decode cX2_init 86 = .ok (.return_, 1) := by decide +kernel
theorem dX2_inverseOf_0 : decode cX2_inverseOf 0 = .ok (.iconst 1, 1) := by decide +kernel
theorem dX2_inverseOf_1 : decode cX2_inverseOf 1 = .ok (.istore_n 2, 1) := by decide +kernel
theorem dX2_inverseOf_2 : decode cX2_inverseOf 2 = .ok (.iload_n 2, 1) := by decide +kernel
theorem dX2_inverseOf_3 : decode cX2_inverseOf 3 = .ok (.aload_n 0, 1) := by decide +kernel
theorem dX2_inverseOf_4 : decode cX2_inverseOf 4 = .ok (.getfield 7, 3) := by decide +kernel
theorem dX2_inverseOf_7 : decode cX2_inverseOf 7 = .ok (.getfield 38, 3) := by decide +kernel
theorem dX2_inverseOf_10 : decode cX2_inverseOf 10 = .ok (.if_icmp .ge 25, 3) := by decide +kernel
theorem dX2_inverseOf_13 : decode cX2_inverseOf 13 = .ok (.aload_n 0, 1) := by decide +kernel
theorem dX2_inverseOf_14 : decode cX2_inverseOf 14 = .ok (.getfield 7, 3) := by decide +kernel
theorem dX2_inverseOf_17 : decode cX2_inverseOf 17 = .ok (.iload_n 2, 1) := by decide +kernel
theorem dX2_inverseOf_18 : decode cX2_inverseOf 18 = .ok (.iload_n 1, 1) := by decide +kernel
theorem dX2_inverseOf_19 : decode cX2_inverseOf 19 = .ok (.imul, 1) := by decide +kernel
theorem dX2_inverseOf_20 : decode cX2_inverseOf 20 = .ok (.invokevirtual 44, 3) := by decide +kernel
theorem dX2_inverseOf_23 : decode cX2_inverseOf 23 = .ok (.iconst 1, 1) := by decide +kernel
theorem dX2_inverseOf_24 : decode cX2_inverseOf 24 = .ok (.if_icmp .ne 5, 3) := by decide +kernel
theorem dX2_inverseOf_27 : decode cX2_inverseOf 27 = .ok (.iload_n 2, 1) := by decide +kernel
theorem dX2_inverseOf_28 : decode cX2_inverseOf 28 = .ok (.ireturn, 1) := by decide +kernel
theorem dX2_inverseOf_29 : decode cX2_inverseOf 29 = .ok (.iinc 2 1, 3) := by decide +kernel
theorem dX2_inverseOf_32 : decode cX2_inverseOf 32 = .ok (.goto (-30), 3) := by decide +kernel
theorem dX2_inverseOf_35 : decode cX2_inverseOf 35 = .ok (.iconst 0, 1) := by decide +kernel
theorem dX2_inverseOf_36 : decode cX2_inverseOf 36 = .ok (.ireturn, 1) := by decide +kernel
theorem dX2_scale_0 : decode cX2_scale 0 = .ok (.aload_n 1, 1) := by decide +kernel
theorem dX2_scale_1 : decode cX2_scale 1 = .ok (.iload_n 2, 1) := by decide +kernel
theorem dX2_scale_2 : decode cX2_scale 2 = .ok (.iconst 1, 1) := by decide +kernel
theorem dX2_scale_3 : decode cX2_scale 3 = .ok (.isub, 1) := by decide +kernel
theorem dX2_scale_4 : decode cX2_scale 4 = .ok (.aload_n 1, 1) := by decide +kernel
theorem dX2_scale_5 : decode cX2_scale 5 = .ok (.iconst 0, 1) := by decide +kernel
theorem dX2_scale_6 : decode cX2_scale 6 = .ok (.aload_n 0, 1) := by decide +kernel
theorem dX2_scale_7 : decode cX2_scale 7 = .ok (.getfield 7, 3) := by decide +kernel
theorem dX2_scale_10 : decode cX2_scale 10 = .ok (.getfield 38, 3) := by decide +kernel
theorem dX2_scale_13 : decode cX2_scale 13 = .ok (.invokevirtual 48, 3) := by decide +kernel
theorem dX2_scale_16 : decode cX2_scale 16 = .ok (.return_, 1) := by decide +kernel
theorem dX2_multiply_0 : decode cX2_multiply 0 = .ok (.aload_n 0, 1) := by decide +kernel
theorem dX2_multiply_1 : decode cX2_multiply 1 = .ok (.getfield 16, 3) := by decide +kernel
theorem dX2_multiply_4 : decode cX2_multiply 4 = .ok (.invokevirtual 52, 3) := by decide +kernel
theorem dX2_multiply_7 : decode cX2_multiply 7 = .ok (.iconst 0, 1) := by decide +kernel
theorem dX2_multiply_8 : decode cX2_multiply 8 = .ok (.istore 4, 2) := by decide +kernel
theorem dX2_multiply_10 : decode cX2_multiply 10 = .ok (.iload 4, 2) := by decide +kernel
theorem dX2_multiply_12 : decode cX2_multiply 12 = .ok (.aload_n 2, 1) := by decide +kernel
theorem dX2_multiply_13 : decode cX2_multiply 13 = .ok (.getfield 55, 3) := by decide +kernel
theorem dX2_multiply_16 : decode cX2_multiply 16 = .ok (.if_icmp .gt 32, 3) := by decide +kernel
theorem dX2_multiply_19 : decode cX2_multiply 19 = .ok (.aload_n 0, 1) := by decide +kernel
theorem dX2_multiply_20 : decode cX2_multiply 20 = .ok (.getfield 16, 3) := by decide +kernel
theorem dX2_multiply_23 : decode cX2_multiply 23 = .ok (.aload_n 2, 1) := by decide +kernel
theorem dX2_multiply_24 : decode cX2_multiply 24 = .ok (.iload 4, 2) := by decide +kernel
theorem dX2_multiply_26 : decode cX2_multiply 26 = .ok (.invokevirtual 58, 3) := by decide +kernel
theorem dX2_multiply_29 : decode cX2_multiply 29 = .ok (.aload_n 3, 1) := by decide +kernel
theorem dX2_multiply_30 : decode cX2_multiply 30 = .ok (.iload 4, 2) := by decide +kernel
theorem dX2_multiply_32 : decode cX2_multiply 32 = .ok (.aload_n 0, 1) := by decide +kernel
theorem dX2_multiply_33 : decode cX2_multiply 33 = .ok (.getfield 7, 3) := by decide +kernel
theorem dX2_multiply_36 : decode cX2_multiply 36 = .ok (.getfield 38, 3) := by decide +kernel
theorem dX2_multiply_39 : decode cX2_multiply 39 = .ok (.invokevirtual 48, 3) := by decide +kernel
theorem dX2_multiply_42 : decode cX2_multiply 42 = .ok (.iinc 4 1, 3) := by decide +kernel
theorem dX2_multiply_45 : decode cX2_multiply 45 = .ok (.goto (-35), 3) := by decide +kernel
theorem dX2_multiply_48 : decode cX2_multiply 48 = .ok (.aload_n 1, 1) := by decide +kernel
theorem dX2_multiply_49 : decode cX2_multiply 49 = .ok (.aload_n 0, 1) := by decide +kernel
theorem dX2_multiply_50 : decode cX2_multiply 50 = .ok (.getfield 16, 3) := by decide +kernel
theorem dX2_multiply_53 : decode cX2_multiply 53 = .ok (.invokevirtual 61, 3) := by decide +kernel
theorem dX2_multiply_56 : decode cX2_multiply 56 = .ok (.return_, 1) := by decide +kernel
theorem dX2_divide_0 : decode cX2_divide 0 = .ok (.aload_n 3, 1) := by decide +kernel
theorem dX2_divide_1 : decode cX2_divide 1 = .ok (.invokevirtual 52, 3) := by decide +kernel
theorem dX2_divide_4 : decode cX2_divide 4 = .ok (.aload_n 0, 1) := by decide +kernel
theorem dX2_divide_5 : decode cX2_divide 5 = .ok (.aload_n 2, 1) := by decide +kernel
theorem dX2_divide_6 : decode cX2_divide 6 = .ok (.aload_n 2, 1) := by decide +kernel
theorem dX2_divide_7 : decode cX2_divide 7 = .ok (.getfield 55, 3) := by decide +kernel
theorem dX2_divide_10 : decode cX2_divide 10 = .ok (.invokevirtual 58, 3) := by decide +kernel
theorem dX2_divide_13 : decode cX2_divide 13 = .ok (.invokevirtual 65, 3) := by decide +kernel
theorem dX2_divide_16 : decode cX2_divide 16 = .ok (.istore 4, 2) := by decide +kernel
theorem dX2_divide_18 : decode cX2_divide 18 = .ok (.iload 4, 2) := by decide +kernel
theorem dX2_divide_20 : decode cX2_divide 20 = .ok (.ifCond .ne 4, 3) := by decide +kernel
theorem dX2_divide_23 : decode cX2_divide 23 = .ok (.return_, 1) := by decide +kernel
theorem dX2_divide_24 : decode cX2_divide 24 = .ok (.aload_n 1, 1) := by decide +kernel
theorem dX2_divide_25 : decode cX2_divide 25 = .ok (.getfield 55, 3) := by decide +kernel
theorem dX2_divide_28 : decode cX2_divide 28 = .ok (.aload_n 2, 1) := by decide +kernel
theorem dX2_divide_29 : decode cX2_divide 29 = .ok (.getfield 55, 3) := by decide +kernel
theorem dX2_divide_32 : decode cX2_divide 32 = .ok (.isub, 1) := by decide +kernel
theorem dX2_divide_33 : decode cX2_divide 33 = .ok (.istore 5, 2) := by decide +kernel
theorem dX2_divide_35 : decode cX2_divide 35 = .ok (.iload 5, 2) := by decide +kernel
theorem dX2_divide_37 : decode cX2_divide 37 = .ok (.ifCond .lt 57, 3) := by decide +kernel
theorem dX2_divide_40 : decode cX2_divide 40 = .ok (.aload_n 0, 1) := by decide +kernel
theorem dX2_divide_41 : decode cX2_divide 41 = .ok (.getfield 7, 3) := by decide +kernel
theorem dX2_divide_44 : decode cX2_divide 44 = .ok (.aload_n 1, 1) := by decide +kernel
theorem dX2_divide_45 : decode cX2_divide 45 = .ok (.iload 5, 2) := by decide +kernel
theorem dX2_divide_47 : decode cX2_divide 47 = .ok (.aload_n 2, 1) := by decide +kernel
theorem dX2_divide_48 : decode cX2_divide 48 = .ok (.getfield 55, 3) := by decide +kernel
theorem dX2_divide_51 : decode cX2_divide 51 = .ok (.iadd, 1) := by decide +kernel
theorem dX2_divide_52 : decode cX2_divide 52 = .ok (.invokevirtual 58, 3) := by decide +kernel
theorem dX2_divide_55 : decode cX2_divide 55 = .ok (.iload 4, 2) := by decide +kernel
theorem dX2_divide_57 : decode cX2_divide 57 = .ok (.imul, 1) := by decide +kernel
theorem dX2_divide_58 : decode cX2_divide 58 = .ok (.invokevirtual 44, 3) := by decide +kernel
theorem dX2_divide_61 : decode cX2_divide 61 = .ok (.istore 6, 2) := by decide +kernel
theorem dX2_divide_63 : decode cX2_divide 63 = .ok (.aload_n 1, 1) := by decide +kernel
theorem dX2_divide_64 : decode cX2_divide 64 = .ok (.iload 6, 2) := by decide +kernel
theorem dX2_divide_66 : decode cX2_divide 66 = .ok (.ineg, 1) := by decide +kernel
theorem dX2_divide_67 : decode cX2_divide 67 = .ok (.aload_n 2, 1) := by decide +kernel
theorem dX2_divide_68 : decode cX2_divide 68 = .ok (.iload 5, 2) := by decide +kernel
theorem dX2_divide_70 : decode cX2_divide 70 = .ok (.aload_n 0, 1) := by decide +kernel
theorem dX2_divide_71 : decode cX2_divide 71 = .ok (.getfield 7, 3) := by decide +kernel
theorem dX2_divide_74 : decode cX2_divide 74 = .ok (.getfield 38, 3) := by decide +kernel
theorem dX2_divide_77 : decode cX2_divide 77 = .ok (.invokevirtual 48, 3) := by decide +kernel
theorem dX2_divide_80 : decode cX2_divide 80 = .ok (.aload_n 3, 1) := by decide +kernel
theorem dX2_divide_81 : decode cX2_divide 81 = .ok (.iload 5, 2) := by decide +kernel
theorem dX2_divide_83 : decode cX2_divide 83 = .ok (.iload 6, 2) := by decide +kernel
theorem dX2_divide_85 : decode cX2_divide 85 = .ok (.invokevirtual 68, 3) := by decide +kernel
theorem dX2_divide_88 : decode cX2_divide 88 = .ok (.iinc 5 (-1), 3) := by decide +kernel
theorem dX2_divide_91 : decode cX2_divide 91 = .ok (.goto (-56), 3) := by decide +kernel
theorem dX2_divide_94 : decode cX2_divide 94 = .ok (.return_, 1) := by decide +kernel
theorem dX2_reduce_0 : decode cX2_reduce 0 = .ok (.aload_n 0, 1) := by decide +kernel
theorem dX2_reduce_1 : decode cX2_reduce 1 = .ok (.aload_n 1, 1) := by decide +kernel
theorem dX2_reduce_2 : decode cX2_reduce 2 = .ok (.aload_n 2, 1) := by decide +kernel
theorem dX2_reduce_3 : decode cX2_reduce 3 = .ok (.aload_n 0, 1) := by decide +kernel
theorem dX2_reduce_4 : decode cX2_reduce 4 = .ok (.getfield 20, 3) := by decide +kernel
theorem dX2_reduce_7 : decode cX2_reduce 7 = .ok (.invokevirtual 72, 3) := by decide +kernel
theorem dX2_reduce_10 : decode cX2_reduce 10 = .ok (.return_, 1) := by decide +kernel
theorem dX2_divideWhole_0 : decode cX2_divideWhole 0 = .ok (.aload_n 0, 1) := by decide +kernel
theorem dX2_divideWhole_1 : decode cX2_divideWhole 1 = .ok (.getfield 23, 3) := by decide +kernel
theorem dX2_divideWhole_4 : decode cX2_divideWhole 4 = .ok (.aload_n 2, 1) := by decide +kernel
theorem dX2_divideWhole_5 : decode cX2_divideWhole 5 = .ok (.invokevirtual 61, 3) := by decide +kernel
theorem dX2_divideWhole_8 : decode cX2_divideWhole 8 = .ok (.aload_n 0, 1) := by decide +kernel
theorem dX2_divideWhole_9 : decode cX2_divideWhole 9 = .ok (.aload_n 0, 1) := by decide +kernel
theorem dX2_divideWhole_10 : decode cX2_divideWhole 10 = .ok (.getfield 23, 3) := by decide +kernel
theorem dX2_divideWhole_13 : decode cX2_divideWhole 13 = .ok (.aload_n 3, 1) := by decide +kernel
theorem dX2_divideWhole_14 : decode cX2_divideWhole 14 = .ok (.aload_n 0, 1) := by decide +kernel
theorem dX2_divideWhole_15 : decode cX2_divideWhole 15 = .ok (.getfield 20, 3) := by decide +kernel
theorem dX2_divideWhole_18 : decode cX2_divideWhole 18 = .ok (.invokevirtual 72, 3) := by decide +kernel
theorem dX2_divideWhole_21 : decode cX2_divideWhole 21 = .ok (.aload_n 1, 1) := by decide +kernel
theorem dX2_divideWhole_22 : decode cX2_divideWhole 22 = .ok (.aload_n 0, 1) := by decide +kernel
theorem dX2_divideWhole_23 : decode cX2_divideWhole 23 = .ok (.getfield 20, 3) := by decide +kernel
theorem dX2_divideWhole_26 : decode cX2_divideWhole 26 = .ok (.invokevirtual 61, 3) := by decide +kernel
theorem dX2_divideWhole_29 : decode cX2_divideWhole 29 = .ok (.return_, 1) := by decide +kernel
theorem dX2_commonFactor_0 : decode cX2_commonFactor 0 = .ok (.aload_n 0, 1) := by decide +kernel
theorem dX2_commonFactor_1 : decode cX2_commonFactor 1 = .ok (.getfield 26, 3) := by decide +kernel
theorem dX2_commonFactor_4 : decode cX2_commonFactor 4 = .ok (.aload_n 2, 1) := by decide +kernel
theorem dX2_commonFactor_5 : decode cX2_commonFactor 5 = .ok (.invokevirtual 61, 3) := by decide +kernel
theorem dX2_commonFactor_8 : decode cX2_commonFactor 8 = .ok (.aload_n 0, 1) := by decide +kernel
theorem dX2_commonFactor_9 : decode cX2_commonFactor 9 = .ok (.getfield 29, 3) := by decide +kernel
theorem dX2_commonFactor_12 : decode cX2_commonFactor 12 = .ok (.aload_n 3, 1) := by decide +kernel
theorem dX2_commonFactor_13 : decode cX2_commonFactor 13 = .ok (.invokevirtual 61, 3) := by decide +kernel
theorem dX2_commonFactor_16 : decode cX2_commonFactor 16 = .ok (.aload_n 0, 1) := by decide +kernel
theorem dX2_commonFactor_17 : decode cX2_commonFactor 17 = .ok (.getfield 26, 3) := by decide +kernel
theorem dX2_commonFactor_20 : decode cX2_commonFactor 20 = .ok (.astore 4, 2) := by decide +kernel
theorem dX2_commonFactor_22 : decode cX2_commonFactor 22 = .ok (.aload_n 0, 1) := by decide +kernel
theorem dX2_commonFactor_23 : decode cX2_commonFactor 23 = .ok (.getfield 29, 3) := by decide +kernel
theorem dX2_commonFactor_26 : decode cX2_commonFactor 26 = .ok (.astore 5, 2) := by decide +kernel
theorem dX2_commonFactor_28 : decode cX2_commonFactor 28 = .ok (.iconst 0, 1) := by decide +kernel
theorem dX2_commonFactor_29 : decode cX2_commonFactor 29 = .ok (.istore 6, 2) := by decide +kernel
theorem dX2_commonFactor_31 : decode cX2_commonFactor 31 = .ok (.iload 6, 2) := by decide +kernel
theorem dX2_commonFactor_33 : decode cX2_commonFactor 33 = .ok (.bipush 13, 2) := by decide +kernel
theorem dX2_commonFactor_35 : decode cX2_commonFactor 35 = .ok (.if_icmp .gt 41, 3) := by decide +kernel
theorem dX2_commonFactor_38 : decode cX2_commonFactor 38 = .ok (.aload 5, 2) := by decide +kernel
theorem dX2_commonFactor_40 : decode cX2_commonFactor 40 = .ok (.getfield 55, 3) := by decide +kernel
theorem dX2_commonFactor_43 : decode cX2_commonFactor 43 = .ok (.ifCond .lt 33, 3) := by decide +kernel
theorem dX2_commonFactor_46 : decode cX2_commonFactor 46 = .ok (.aload_n 0, 1) := by decide +kernel
theorem dX2_commonFactor_47 : decode cX2_commonFactor 47 = .ok (.aload 4, 2) := by decide +kernel
theorem dX2_commonFactor_49 : decode cX2_commonFactor 49 = .ok (.aload 5, 2) := by decide +kernel
theorem dX2_commonFactor_51 : decode cX2_commonFactor 51 = .ok (.aload_n 0, 1) := by decide +kernel
theorem dX2_commonFactor_52 : decode cX2_commonFactor 52 = .ok (.getfield 20, 3) := by decide +kernel
theorem dX2_commonFactor_55 : decode cX2_commonFactor 55 = .ok (.invokevirtual 72, 3) := by decide +kernel
theorem dX2_commonFactor_58 : decode cX2_commonFactor 58 = .ok (.aload 4, 2) := by decide +kernel
theorem dX2_commonFactor_60 : decode cX2_commonFactor 60 = .ok (.astore 7, 2) := by decide +kernel
theorem dX2_commonFactor_62 : decode cX2_commonFactor 62 = .ok (.aload 5, 2) := by decide +kernel
theorem dX2_commonFactor_64 : decode cX2_commonFactor 64 = .ok (.astore 4, 2) := by decide +kernel
theorem dX2_commonFactor_66 : decode cX2_commonFactor 66 = .ok (.aload 7, 2) := by decide +kernel
theorem dX2_commonFactor_68 : decode cX2_commonFactor 68 = .ok (.astore 5, 2) := by decide +kernel
theorem dX2_commonFactor_70 : decode cX2_commonFactor 70 = .ok (.iinc 6 1, 3) := by decide +kernel
theorem dX2_commonFactor_73 : decode cX2_commonFactor 73 = .ok (.goto (-42), 3) := by decide +kernel
theorem dX2_commonFactor_76 : decode cX2_commonFactor 76 = .ok (.aload_n 1, 1) := by decide +kernel
theorem dX2_commonFactor_77 : decode cX2_commonFactor 77 = .ok (.aload 4, 2) := by decide +kernel
theorem dX2_commonFactor_79 : decode cX2_commonFactor 79 = .ok (.invokevirtual 61, 3) := by decide +kernel
theorem dX2_commonFactor_82 : decode cX2_commonFactor 82 = .ok (.aload_n 0, 1) := by decide +kernel
theorem dX2_commonFactor_83 : decode cX2_commonFactor 83 = .ok (.aload_n 1, 1) := by decide +kernel
theorem dX2_commonFactor_84 : decode cX2_commonFactor 84 = .ok (.aload_n 0, 1) := by decide +kernel
theorem dX2_commonFactor_85 : decode cX2_commonFactor 85 = .ok (.aload_n 1, 1) := by decide +kernel
theorem dX2_commonFactor_86 : decode cX2_commonFactor 86 = .ok (.aload_n 1, 1) := by decide +kernel
theorem dX2_commonFactor_87 : decode cX2_commonFactor 87 = .ok (.getfield 55, 3) := by decide +kernel
theorem dX2_commonFactor_90 : decode cX2_commonFactor 90 = .ok (.invokevirtual 58, 3) := by decide +kernel
theorem dX2_commonFactor_93 : decode cX2_commonFactor 93 = .ok (.invokevirtual 65, 3) := by decide +kernel
theorem dX2_commonFactor_96 : decode cX2_commonFactor 96 = .ok (.invokevirtual 76, 3) := by decide +kernel
theorem dX2_commonFactor_99 : decode cX2_commonFactor 99 = .ok (.return_, 1) := by decide +kernel
theorem dX2_invert_0 : decode cX2_invert 0 = .ok (.aload_n 0, 1) := by decide +kernel
theorem dX2_invert_1 : decode cX2_invert 1 = .ok (.getfield 26, 3) := by decide +kernel
theorem dX2_invert_4 : decode cX2_invert 4 = .ok (.aload_n 3, 1) := by decide +kernel
theorem dX2_invert_5 : decode cX2_invert 5 = .ok (.invokevirtual 61, 3) := by decide +kernel
theorem dX2_invert_8 : decode cX2_invert 8 = .ok (.aload_n 0, 1) := by decide +kernel
theorem dX2_invert_9 : decode cX2_invert 9 = .ok (.getfield 29, 3) := by decide +kernel
theorem dX2_invert_12 : decode cX2_invert 12 = .ok (.aload_n 2, 1) := by decide +kernel
theorem dX2_invert_13 : decode cX2_invert 13 = .ok (.invokevirtual 61, 3) := by decide +kernel
theorem dX2_invert_16 : decode cX2_invert 16 = .ok (.aload_n 0, 1) := by decide +kernel
theorem dX2_invert_17 : decode cX2_invert 17 = .ok (.getfield 32, 3) := by decide +kernel
theorem dX2_invert_20 : decode cX2_invert 20 = .ok (.invokevirtual 52, 3) := by decide +kernel
theorem dX2_invert_23 : decode cX2_invert 23 = .ok (.aload_n 0, 1) := by decide +kernel
theorem dX2_invert_24 : decode cX2_invert 24 = .ok (.getfield 35, 3) := by decide +kernel
theorem dX2_invert_27 : decode cX2_invert 27 = .ok (.iconst 1, 1) := by decide +kernel
theorem dX2_invert_28 : decode cX2_invert 28 = .ok (.invokevirtual 80, 3) := by decide +kernel
theorem dX2_invert_31 : decode cX2_invert 31 = .ok (.aload_n 0, 1) := by decide +kernel
theorem dX2_invert_32 : decode cX2_invert 32 = .ok (.getfield 26, 3) := by decide +kernel
theorem dX2_invert_35 : decode cX2_invert 35 = .ok (.astore 4, 2) := by decide +kernel
theorem dX2_invert_37 : decode cX2_invert 37 = .ok (.aload_n 0, 1) := by decide +kernel
theorem dX2_invert_38 : decode cX2_invert 38 = .ok (.getfield 29, 3) := by decide +kernel
theorem dX2_invert_41 : decode cX2_invert 41 = .ok (.astore 5, 2) := by decide +kernel
theorem dX2_invert_43 : decode cX2_invert 43 = .ok (.aload_n 0, 1) := by decide +kernel
theorem dX2_invert_44 : decode cX2_invert 44 = .ok (.getfield 32, 3) := by decide +kernel
theorem dX2_invert_47 : decode cX2_invert 47 = .ok (.astore 6, 2) := by decide +kernel
theorem dX2_invert_49 : decode cX2_invert 49 = .ok (.aload_n 0, 1) := by decide +kernel
theorem dX2_invert_50 : decode cX2_invert 50 = .ok (.getfield 35, 3) := by decide +kernel
theorem dX2_invert_53 : decode cX2_invert 53 = .ok (.astore 7, 2) := by decide +kernel
theorem dX2_invert_55 : decode cX2_invert 55 = .ok (.iconst 0, 1) := by decide +kernel
theorem dX2_invert_56 : decode cX2_invert 56 = .ok (.istore 8, 2) := by decide +kernel
theorem dX2_invert_58 : decode cX2_invert 58 = .ok (.iload 8, 2) := by decide +kernel
theorem dX2_invert_60 : decode cX2_invert 60 = .ok (.bipush 13, 2) := by decide +kernel
theorem dX2_invert_62 : decode cX2_invert 62 = .ok (.if_icmp .gt 85, 3) := by decide +kernel
theorem dX2_invert_65 : decode cX2_invert 65 = .ok (.aload 5, 2) := by decide +kernel
theorem dX2_invert_67 : decode cX2_invert 67 = .ok (.getfield 55, 3) := by decide +kernel
theorem dX2_invert_70 : decode cX2_invert 70 = .ok (.ifCond .lt 77, 3) := by decide +kernel
theorem dX2_invert_73 : decode cX2_invert 73 = .ok (.aload_n 0, 1) := by decide +kernel
theorem dX2_invert_74 : decode cX2_invert 74 = .ok (.aload 4, 2) := by decide +kernel
theorem dX2_invert_76 : decode cX2_invert 76 = .ok (.aload 5, 2) := by decide +kernel
theorem dX2_invert_78 : decode cX2_invert 78 = .ok (.aload_n 0, 1) := by decide +kernel
theorem dX2_invert_79 : decode cX2_invert 79 = .ok (.getfield 20, 3) := by decide +kernel
theorem dX2_invert_82 : decode cX2_invert 82 = .ok (.invokevirtual 72, 3) := by decide +kernel
theorem dX2_invert_85 : decode cX2_invert 85 = .ok (.aload_n 0, 1) := by decide +kernel
theorem dX2_invert_86 : decode cX2_invert 86 = .ok (.aload_n 0, 1) := by decide +kernel
theorem dX2_invert_87 : decode cX2_invert 87 = .ok (.getfield 20, 3) := by decide +kernel
theorem dX2_invert_90 : decode cX2_invert 90 = .ok (.aload_n 0, 1) := by decide +kernel
theorem dX2_invert_91 : decode cX2_invert 91 = .ok (.getfield 20, 3) := by decide +kernel
theorem dX2_invert_94 : decode cX2_invert 94 = .ok (.aload 7, 2) := by decide +kernel
theorem dX2_invert_96 : decode cX2_invert 96 = .ok (.invokevirtual 84, 3) := by decide +kernel
theorem dX2_invert_99 : decode cX2_invert 99 = .ok (.aload 6, 2) := by decide +kernel
theorem dX2_invert_101 : decode cX2_invert 101 = .ok (.iconst (-1), 1) := by decide +kernel
theorem dX2_invert_102 : decode cX2_invert 102 = .ok (.aload_n 0, 1) := by decide +kernel
theorem dX2_invert_103 : decode cX2_invert 103 = .ok (.getfield 20, 3) := by decide +kernel
theorem dX2_invert_106 : decode cX2_invert 106 = .ok (.iconst 0, 1) := by decide +kernel
theorem dX2_invert_107 : decode cX2_invert 107 = .ok (.aload_n 0, 1) := by decide +kernel
theorem dX2_invert_108 : decode cX2_invert 108 = .ok (.getfield 7, 3) := by decide +kernel
theorem dX2_invert_111 : decode cX2_invert 111 = .ok (.getfield 38, 3) := by decide +kernel
theorem dX2_invert_114 : decode cX2_invert 114 = .ok (.invokevirtual 48, 3) := by decide +kernel
theorem dX2_invert_117 : decode cX2_invert 117 = .ok (.aload 4, 2) := by decide +kernel
theorem dX2_invert_119 : decode cX2_invert 119 = .ok (.astore 9, 2) := by decide +kernel
theorem dX2_invert_121 : decode cX2_invert 121 = .ok (.aload 5, 2) := by decide +kernel
theorem dX2_invert_123 : decode cX2_invert 123 = .ok (.astore 4, 2) := by decide +kernel
theorem dX2_invert_125 : decode cX2_invert 125 = .ok (.aload 9, 2) := by decide +kernel
theorem dX2_invert_127 : decode cX2_invert 127 = .ok (.astore 5, 2) := by decide +kernel
theorem dX2_invert_129 : decode cX2_invert 129 = .ok (.aload 6, 2) := by decide +kernel
theorem dX2_invert_131 : decode cX2_invert 131 = .ok (.astore 10, 2) := by decide +kernel
theorem dX2_invert_133 : decode cX2_invert 133 = .ok (.aload 7, 2) := by decide +kernel
theorem dX2_invert_135 : decode cX2_invert 135 = .ok (.astore 6, 2) := by decide +kernel
theorem dX2_invert_137 : decode cX2_invert 137 = .ok (.aload 10, 2) := by decide +kernel
theorem dX2_invert_139 : decode cX2_invert 139 = .ok (.astore 7, 2) := by decide +kernel
theorem dX2_invert_141 : decode cX2_invert 141 = .ok (.iinc 8 1, 3) := by decide +kernel
theorem dX2_invert_144 : decode cX2_invert 144 = .ok (.goto (-86), 3) := by decide +kernel
theorem dX2_invert_147 : decode cX2_invert 147 = .ok (.aload_n 1, 1) := by decide +kernel
theorem dX2_invert_148 : decode cX2_invert 148 = .ok (.aload 6, 2) := by decide +kernel
theorem dX2_invert_150 : decode cX2_invert 150 = .ok (.invokevirtual 61, 3) := by decide +kernel
theorem dX2_invert_153 : decode cX2_invert 153 = .ok (.aload_n 0, 1) := by decide +kernel
theorem dX2_invert_154 : decode cX2_invert 154 = .ok (.aload_n 1, 1) := by decide +kernel
theorem dX2_invert_155 : decode cX2_invert 155 = .ok (.aload_n 0, 1) := by decide +kernel
theorem dX2_invert_156 : decode cX2_invert 156 = .ok (.aload 4, 2) := by decide +kernel
theorem dX2_invert_158 : decode cX2_invert 158 = .ok (.iconst 0, 1) := by decide +kernel
theorem dX2_invert_159 : decode cX2_invert 159 = .ok (.invokevirtual 58, 3) := by decide +kernel
theorem dX2_invert_162 : decode cX2_invert 162 = .ok (.invokevirtual 65, 3) := by decide +kernel
theorem dX2_invert_165 : decode cX2_invert 165 = .ok (.invokevirtual 76, 3) := by decide +kernel
theorem dX2_invert_168 : decode cX2_invert 168 = .ok (.return_, 1) := by decide +kernel
theorem dX2_hasSquare_0 : decode cX2_hasSquare 0 = .ok (.aload_n 0, 1) := by decide +kernel
theorem dX2_hasSquare_1 : decode cX2_hasSquare 1 = .ok (.getfield 29, 3) := by decide +kernel
theorem dX2_hasSquare_4 : decode cX2_hasSquare 4 = .ok (.invokevirtual 52, 3) := by decide +kernel
theorem dX2_hasSquare_7 : decode cX2_hasSquare 7 = .ok (.iconst 1, 1) := by decide +kernel
theorem dX2_hasSquare_8 : decode cX2_hasSquare 8 = .ok (.istore_n 2, 1) := by decide +kernel
theorem dX2_hasSquare_9 : decode cX2_hasSquare 9 = .ok (.iload_n 2, 1) := by decide +kernel
theorem dX2_hasSquare_10 : decode cX2_hasSquare 10 = .ok (.aload_n 1, 1) := by decide +kernel
theorem dX2_hasSquare_11 : decode cX2_hasSquare 11 = .ok (.getfield 55, 3) := by decide +kernel
theorem dX2_hasSquare_14 : decode cX2_hasSquare 14 = .ok (.if_icmp .gt 33, 3) := by decide +kernel
theorem dX2_hasSquare_17 : decode cX2_hasSquare 17 = .ok (.aload_n 0, 1) := by decide +kernel
theorem dX2_hasSquare_18 : decode cX2_hasSquare 18 = .ok (.getfield 29, 3) := by decide +kernel
theorem dX2_hasSquare_21 : decode cX2_hasSquare 21 = .ok (.iload_n 2, 1) := by decide +kernel
theorem dX2_hasSquare_22 : decode cX2_hasSquare 22 = .ok (.iconst 1, 1) := by decide +kernel
theorem dX2_hasSquare_23 : decode cX2_hasSquare 23 = .ok (.isub, 1) := by decide +kernel
theorem dX2_hasSquare_24 : decode cX2_hasSquare 24 = .ok (.aload_n 0, 1) := by decide +kernel
theorem dX2_hasSquare_25 : decode cX2_hasSquare 25 = .ok (.getfield 7, 3) := by decide +kernel
theorem dX2_hasSquare_28 : decode cX2_hasSquare 28 = .ok (.iload_n 2, 1) := by decide +kernel
theorem dX2_hasSquare_29 : decode cX2_hasSquare 29 = .ok (.aload_n 1, 1) := by decide +kernel
theorem dX2_hasSquare_30 : decode cX2_hasSquare 30 = .ok (.iload_n 2, 1) := by decide +kernel
theorem dX2_hasSquare_31 : decode cX2_hasSquare 31 = .ok (.invokevirtual 58, 3) := by decide +kernel
theorem dX2_hasSquare_34 : decode cX2_hasSquare 34 = .ok (.imul, 1) := by decide +kernel
theorem dX2_hasSquare_35 : decode cX2_hasSquare 35 = .ok (.invokevirtual 44, 3) := by decide +kernel
theorem dX2_hasSquare_38 : decode cX2_hasSquare 38 = .ok (.invokevirtual 68, 3) := by decide +kernel
theorem dX2_hasSquare_41 : decode cX2_hasSquare 41 = .ok (.iinc 2 1, 3) := by decide +kernel
theorem dX2_hasSquare_44 : decode cX2_hasSquare 44 = .ok (.goto (-35), 3) := by decide +kernel
theorem dX2_hasSquare_47 : decode cX2_hasSquare 47 = .ok (.aload_n 0, 1) := by decide +kernel
theorem dX2_hasSquare_48 : decode cX2_hasSquare 48 = .ok (.aload_n 0, 1) := by decide +kernel
theorem dX2_hasSquare_49 : decode cX2_hasSquare 49 = .ok (.getfield 23, 3) := by decide +kernel
theorem dX2_hasSquare_52 : decode cX2_hasSquare 52 = .ok (.aload_n 1, 1) := by decide +kernel
theorem dX2_hasSquare_53 : decode cX2_hasSquare 53 = .ok (.aload_n 0, 1) := by decide +kernel
theorem dX2_hasSquare_54 : decode cX2_hasSquare 54 = .ok (.getfield 29, 3) := by decide +kernel
theorem dX2_hasSquare_57 : decode cX2_hasSquare 57 = .ok (.invokevirtual 87, 3) := by decide +kernel
theorem dX2_hasSquare_60 : decode cX2_hasSquare 60 = .ok (.aload_n 0, 1) := by decide +kernel
theorem dX2_hasSquare_61 : decode cX2_hasSquare 61 = .ok (.getfield 23, 3) := by decide +kernel
theorem dX2_hasSquare_64 : decode cX2_hasSquare 64 = .ok (.getfield 55, 3) := by decide +kernel
theorem dX2_hasSquare_67 : decode cX2_hasSquare 67 = .ok (.ifCond .le 7, 3) := by decide +kernel
theorem dX2_hasSquare_70 : decode cX2_hasSquare 70 = .ok (.iconst 1, 1) := by decide +kernel
theorem dX2_hasSquare_71 : decode cX2_hasSquare 71 = .ok (.goto 4, 3) := by decide +kernel
theorem dX2_hasSquare_74 : decode cX2_hasSquare 74 = .ok (.iconst 0, 1) := by decide +kernel
theorem dX2_hasSquare_75 : decode cX2_hasSquare 75 = .ok (.ireturn, 1) := by decide +kernel
theorem dX3_init_0 : decode cX3_init 0 = .ok (.aload_n 0, 1) := by decide +kernel
theorem dX3_init_1 : decode cX3_init 1 = .ok (.invokespecial 1, 3) := by decide +kernel
theorem dX3_init_4 : decode cX3_init 4 = .ok (.aload_n 0, 1) := by decide +kernel
theorem dX3_init_5 : decode cX3_init 5 = .ok (.iconst 4, 1) := by decide +kernel
theorem dX3_init_6 : decode cX3_init 6 = .ok (.anewarray 9, 3) := by decide +kernel
theorem dX3_init_9 : decode cX3_init 9 = .ok (.putfield 11, 3) := by decide +kernel
theorem dX3_init_12 : decode cX3_init 12 = .ok (.iconst 0, 1) := by decide +kernel
theorem dX3_init_13 : decode cX3_init 13 = .ok (.istore_n 1, 1) := by decide +kernel
theorem dX3_init_14 : decode cX3_init 14 = .ok (.iload_n 1, 1) := by decide +kernel
theorem dX3_init_15 : decode cX3_init 15 = .ok (.iconst 4, 1) := by decide +kernel
theorem dX3_init_16 : decode cX3_init 16 = .ok (.if_icmp .ge 22, 3) := by decide +kernel
theorem dX3_init_19 : decode cX3_init 19 = .ok (.aload_n 0, 1) := by decide +kernel
theorem dX3_init_20 : decode cX3_init 20 = .ok (.getfield 11, 3) := by decide +kernel
theorem dX3_init_23 : decode cX3_init 23 = .ok (.iload_n 1, 1) := by decide +kernel
theorem dX3_init_24 : decode cX3_init 24 = .ok (.new 9, 3) := by decide +kernel
theorem dX3_init_27 : decode cX3_init 27 = .ok (.dup, 1) := by decide +kernel
theorem dX3_init_28 : decode cX3_init 28 = .ok (.invokespecial 15, 3) := by decide +kernel
theorem dX3_init_31 : decode cX3_init 31 = .ok (.aastore, 1) := by decide +kernel
theorem dX3_init_32 : decode cX3_init 32 = .ok (.iinc 1 1, 3) := by decide +kernel
theorem dX3_init_35 : decode cX3_init 35 = .ok (.goto (-21), 3) := by decide +kernel
theorem dX3_init_38 : decode cX3_init 38 = .ok (.aload_n 0, 1) := by decide +kernel
theorem dX3_init_39 : decode cX3_init 39 = .ok (.iconst 0, 1) := by decide +kernel
theorem dX3_init_40 : decode cX3_init 40 = .ok (.putfield 16, 3) := by decide +kernel
theorem dX3_init_43 : decode cX3_init 43 = .ok (.aload_n 0, 1) := by decide +kernel
theorem dX3_init_44 : decode cX3_init 44 = .ok (.iconst 0, 1) := by decide +kernel
theorem dX3_init_45 : decode cX3_init 45 = .ok (.putfield 20, 3) := by decide +kernel
theorem dX3_init_48 : decode cX3_init 48 = .ok (.return_, 1) := by decide +kernel
theorem dX3_record_0 : decode cX3_record 0 = .ok (.aload_n 0, 1) := by decide +kernel
theorem dX3_record_1 : decode cX3_record 1 = .ok (.getfield 11, 3) := by decide +kernel
theorem dX3_record_4 : decode cX3_record 4 = .ok (.aload_n 0, 1) := by decide +kernel
theorem dX3_record_5 : decode cX3_record 5 = .ok (.getfield 16, 3) := by decide +kernel
theorem dX3_record_8 : decode cX3_record 8 = .ok (.aaload, 1) := by decide +kernel
theorem dX3_record_9 : decode cX3_record 9 = .ok (.aload_n 1, 1) := by decide +kernel
theorem dX3_record_10 : decode cX3_record 10 = .ok (.invokevirtual 23, 3) := by decide +kernel
theorem dX3_record_13 : decode cX3_record 13 = .ok (.aload_n 0, 1) := by decide +kernel
theorem dX3_record_14 : decode cX3_record 14 = .ok (.aload_n 0, 1) := by decide +kernel
theorem dX3_record_15 : decode cX3_record 15 = .ok (.getfield 16, 3) := by decide +kernel
theorem dX3_record_18 : decode cX3_record 18 = .ok (.iconst 3, 1) := by decide +kernel
theorem dX3_record_19 : decode cX3_record 19 = .ok (.if_icmp .ne 7, 3) := by decide +kernel
theorem dX3_record_22 : decode cX3_record 22 = .ok (.iconst 0, 1) := by decide +kernel
theorem dX3_record_23 : decode cX3_record 23 = .ok (.goto 9, 3) := by decide +kernel
theorem dX3_record_26 : decode cX3_record 26 = .ok (.aload_n 0, 1) := by decide +kernel
theorem dX3_record_27 : decode cX3_record 27 = .ok (.getfield 16, 3) := by decide +kernel
theorem dX3_record_30 : decode cX3_record 30 = .ok (.iconst 1, 1) := by decide +kernel
theorem dX3_record_31 : decode cX3_record 31 = .ok (.iadd, 1) := by decide +kernel
theorem dX3_record_32 : decode cX3_record 32 = .ok (.putfield 16, 3) := by decide +kernel
theorem dX3_record_35 : decode cX3_record 35 = .ok (.aload_n 0, 1) := by decide +kernel
theorem dX3_record_36 : decode cX3_record 36 = .ok (.aload_n 0, 1) := by decide +kernel
theorem dX3_record_37 : decode cX3_record 37 = .ok (.getfield 20, 3) := by decide +kernel
theorem dX3_record_40 : decode cX3_record 40 = .ok (.iconst 1, 1) := by decide +kernel
theorem dX3_record_41 : decode cX3_record 41 = .ok (.iadd, 1) := by decide +kernel
theorem dX3_record_42 : decode cX3_record 42 = .ok (.iconst 4, 1) := by decide +kernel
theorem dX3_record_43 : decode cX3_record 43 = .ok (.invokestatic 27, 3) := by decide +kernel
theorem dX3_record_46 : decode cX3_record 46 = .ok (.putfield 20, 3) := by decide +kernel
theorem dX3_record_49 : decode cX3_record 49 = .ok (.return_, 1) := by decide +kernel
theorem dX3_takeBack_0 : decode cX3_takeBack 0 = .ok (.aload_n 0, 1) := by decide +kernel
theorem dX3_takeBack_1 : decode cX3_takeBack 1 = .ok (.getfield 20, 3) := by decide +kernel
theorem dX3_takeBack_4 : decode cX3_takeBack 4 = .ok (.ifCond .le 47, 3) := by decide +kernel
theorem dX3_takeBack_7 : decode cX3_takeBack 7 = .ok (.aload_n 0, 1) := by decide +kernel
theorem dX3_takeBack_8 : decode cX3_takeBack 8 = .ok (.aload_n 0, 1) := by decide +kernel
theorem dX3_takeBack_9 : decode cX3_takeBack 9 = .ok (.getfield 16, 3) := by decide +kernel
theorem dX3_takeBack_12 : decode cX3_takeBack 12 = .ok (.ifCond .ne 7, 3) := by decide +kernel
theorem dX3_takeBack_15 : decode cX3_takeBack 15 = .ok (.iconst 3, 1) := by decide +kernel
theorem dX3_takeBack_16 : decode cX3_takeBack 16 = .ok (.goto 9, 3) := by decide +kernel
theorem dX3_takeBack_19 : decode cX3_takeBack 19 = .ok (.aload_n 0, 1) := by decide +kernel
theorem dX3_takeBack_20 : decode cX3_takeBack 20 = .ok (.getfield 16, 3) := by decide +kernel
theorem dX3_takeBack_23 : decode cX3_takeBack 23 = .ok (.iconst 1, 1) := by decide +kernel
theorem dX3_takeBack_24 : decode cX3_takeBack 24 = .ok (.isub, 1) := by decide +kernel
theorem dX3_takeBack_25 : decode cX3_takeBack 25 = .ok (.putfield 16, 3) := by decide +kernel
theorem dX3_takeBack_28 : decode cX3_takeBack 28 = .ok (.aload_n 1, 1) := by decide +kernel
theorem dX3_takeBack_29 : decode cX3_takeBack 29 = .ok (.aload_n 0, 1) := by decide +kernel
theorem dX3_takeBack_30 : decode cX3_takeBack 30 = .ok (.getfield 11, 3) := by decide +kernel
theorem dX3_takeBack_33 : decode cX3_takeBack 33 = .ok (.aload_n 0, 1) := by decide +kernel
theorem dX3_takeBack_34 : decode cX3_takeBack 34 = .ok (.getfield 16, 3) := by decide +kernel
theorem dX3_takeBack_37 : decode cX3_takeBack 37 = .ok (.aaload, 1) := by decide +kernel
theorem dX3_takeBack_38 : decode cX3_takeBack 38 = .ok (.invokevirtual 23, 3) := by decide +kernel
theorem dX3_takeBack_41 : decode cX3_takeBack 41 = .ok (.aload_n 0, 1) := by decide +kernel
theorem dX3_takeBack_42 : decode cX3_takeBack 42 = .ok (.dup, 1) := by decide +kernel
theorem dX3_takeBack_43 : decode cX3_takeBack 43 = .ok (.getfield 20, 3) := by decide +kernel
theorem dX3_takeBack_46 : decode cX3_takeBack 46 = .ok (.iconst 1, 1) := by decide +kernel
theorem dX3_takeBack_47 : decode cX3_takeBack 47 = .ok (.isub, 1) := by decide +kernel
theorem dX3_takeBack_48 : decode cX3_takeBack 48 = .ok (.putfield 20, 3) := by decide +kernel
theorem dX3_takeBack_51 : decode cX3_takeBack 51 = .ok (.return_, 1) := by decide +kernel
theorem dX4_init_0 : decode cX4_init 0 = .ok (.aload_n 0, 1) := by decide +kernel
theorem dX4_init_1 : decode cX4_init 1 = .ok (.invokespecial 3, 3) := by decide +kernel
theorem dX4_init_4 : decode cX4_init 4 = .ok (.aload_n 0, 1) := by decide +kernel
theorem dX4_init_5 : decode cX4_init 5 = .ok (.bipush 13, 2) := by decide +kernel
theorem dX4_init_7 : decode cX4_init 7 = .ok (.newarray .int, 2) := by decide +kernel
theorem dX4_init_9 : decode cX4_init 9 = .ok (.putfield 11, 3) := by decide +kernel
theorem dX4_init_12 : decode cX4_init 12 = .ok (.aload_n 0, 1) := by decide +kernel
theorem dX4_init_13 : decode cX4_init 13 = .ok (.iconst (-1), 1) := by decide +kernel
theorem dX4_init_14 : decode cX4_init 14 = .ok (.putfield 15, 3) := by decide +kernel
theorem dX4_init_17 : decode cX4_init 17 = .ok (.return_, 1) := by decide +kernel
theorem dX4_at_0 : decode cX4_at 0 = .ok (.iload_n 1, 1) := by decide +kernel
theorem dX4_at_1 : decode cX4_at 1 = .ok (.ifCond .lt 18, 3) := by decide +kernel
theorem dX4_at_4 : decode cX4_at 4 = .ok (.iload_n 1, 1) := by decide +kernel
theorem dX4_at_5 : decode cX4_at 5 = .ok (.bipush 13, 2) := by decide +kernel
theorem dX4_at_7 : decode cX4_at 7 = .ok (.if_icmp .ge 12, 3) := by decide +kernel
theorem dX4_at_10 : decode cX4_at 10 = .ok (.aload_n 0, 1) := by decide +kernel
theorem dX4_at_11 : decode cX4_at 11 = .ok (.getfield 11, 3) := by decide +kernel
theorem dX4_at_14 : decode cX4_at 14 = .ok (.iload_n 1, 1) := by decide +kernel
theorem dX4_at_15 : decode cX4_at 15 = .ok (.iaload, 1) := by decide +kernel
theorem dX4_at_16 : decode cX4_at 16 = .ok (.goto 4, 3) := by decide +kernel
theorem dX4_at_19 : decode cX4_at 19 = .ok (.iconst 0, 1) := by decide +kernel
theorem dX4_at_20 : decode cX4_at 20 = .ok (.ireturn, 1) := by decide +kernel
theorem dX4_set_0 : decode cX4_set 0 = .ok (.iload_n 1, 1) := by decide +kernel
theorem dX4_set_1 : decode cX4_set 1 = .ok (.ifCond .lt 9, 3) := by decide +kernel
theorem dX4_set_4 : decode cX4_set 4 = .ok (.iload_n 1, 1) := by decide +kernel
theorem dX4_set_5 : decode cX4_set 5 = .ok (.bipush 13, 2) := by decide +kernel
theorem dX4_set_7 : decode cX4_set 7 = .ok (.if_icmp .lt 4, 3) := by decide +kernel
theorem dX4_set_10 : decode cX4_set 10 = .ok (.return_, 1) := by decide +kernel
theorem dX4_set_11 : decode cX4_set 11 = .ok (.aload_n 0, 1) := by decide +kernel
theorem dX4_set_12 : decode cX4_set 12 = .ok (.getfield 11, 3) := by decide +kernel
theorem dX4_set_15 : decode cX4_set 15 = .ok (.iload_n 1, 1) := by decide +kernel
theorem dX4_set_16 : decode cX4_set 16 = .ok (.iload_n 2, 1) := by decide +kernel
theorem dX4_set_17 : decode cX4_set 17 = .ok (.iastore, 1) := by decide +kernel
theorem dX4_set_18 : decode cX4_set 18 = .ok (.aload_n 0, 1) := by decide +kernel
theorem dX4_set_19 : decode cX4_set 19 = .ok (.aload_n 0, 1) := by decide +kernel
theorem dX4_set_20 : decode cX4_set 20 = .ok (.getfield 15, 3) := by decide +kernel
theorem dX4_set_23 : decode cX4_set 23 = .ok (.iload_n 1, 1) := by decide +kernel
theorem dX4_set_24 : decode cX4_set 24 = .ok (.invokestatic 19, 3) := by decide +kernel
theorem dX4_set_27 : decode cX4_set 27 = .ok (.putfield 15, 3) := by decide +kernel
theorem dX4_set_30 : decode cX4_set 30 = .ok (.aload_n 0, 1) := by decide +kernel
theorem dX4_set_31 : decode cX4_set 31 = .ok (.invokevirtual 25, 3) := by decide +kernel
theorem dX4_set_34 : decode cX4_set 34 = .ok (.return_, 1) := by decide +kernel
theorem dX4_clear_0 : decode cX4_clear 0 = .ok (.iconst 0, 1) := by decide +kernel
theorem dX4_clear_1 : decode cX4_clear 1 = .ok (.istore_n 1, 1) := by decide +kernel
theorem dX4_clear_2 : decode cX4_clear 2 = .ok (.iload_n 1, 1) := by decide +kernel
theorem dX4_clear_3 : decode cX4_clear 3 = .ok (.bipush 13, 2) := by decide +kernel
theorem dX4_clear_5 : decode cX4_clear 5 = .ok (.if_icmp .ge 16, 3) := by decide +kernel
theorem dX4_clear_8 : decode cX4_clear 8 = .ok (.aload_n 0, 1) := by decide +kernel
theorem dX4_clear_9 : decode cX4_clear 9 = .ok (.getfield 11, 3) := by decide +kernel
theorem dX4_clear_12 : decode cX4_clear 12 = .ok (.iload_n 1, 1) := by decide +kernel
theorem dX4_clear_13 : decode cX4_clear 13 = .ok (.iconst 0, 1) := by decide +kernel
theorem dX4_clear_14 : decode cX4_clear 14 = .ok (.iastore, 1) := by decide +kernel
theorem dX4_clear_15 : decode cX4_clear 15 = .ok (.iinc 1 1, 3) := by decide +kernel
theorem dX4_clear_18 : decode cX4_clear 18 = .ok (.goto (-16), 3) := by decide +kernel
theorem dX4_clear_21 : decode cX4_clear 21 = .ok (.aload_n 0, 1) := by decide +kernel
theorem dX4_clear_22 : decode cX4_clear 22 = .ok (.iconst (-1), 1) := by decide +kernel
theorem dX4_clear_23 : decode cX4_clear 23 = .ok (.putfield 15, 3) := by decide +kernel
theorem dX4_clear_26 : decode cX4_clear 26 = .ok (.return_, 1) := by decide +kernel
theorem dX4_becomeConstant_0 : decode cX4_becomeConstant 0 = .ok (.aload_n 0, 1) := by decide +kernel
theorem dX4_becomeConstant_1 : decode cX4_becomeConstant 1 = .ok (.invokevirtual 28, 3) := by decide +kernel
theorem dX4_becomeConstant_4 : decode cX4_becomeConstant 4 = .ok (.aload_n 0, 1) := by decide +kernel
theorem dX4_becomeConstant_5 : decode cX4_becomeConstant 5 = .ok (.iconst 0, 1) := by decide +kernel
theorem dX4_becomeConstant_6 : decode cX4_becomeConstant 6 = .ok (.iload_n 1, 1) := by decide +kernel
theorem dX4_becomeConstant_7 : decode cX4_becomeConstant 7 = .ok (.invokevirtual 31, 3) := by decide +kernel
theorem dX4_becomeConstant_10 : decode cX4_becomeConstant 10 = .ok (.return_, 1) := by decide +kernel
theorem dX4_becomeVariable_0 : decode cX4_becomeVariable 0 = .ok (.aload_n 0, 1) := by decide +kernel
theorem dX4_becomeVariable_1 : decode cX4_becomeVariable 1 = .ok (.invokevirtual 28, 3) := by decide +kernel
theorem dX4_becomeVariable_4 : decode cX4_becomeVariable 4 = .ok (.aload_n 0, 1) := by decide +kernel
theorem dX4_becomeVariable_5 : decode cX4_becomeVariable 5 = .ok (.iconst 1, 1) := by decide +kernel
theorem dX4_becomeVariable_6 : decode cX4_becomeVariable 6 = .ok (.iconst 1, 1) := by decide +kernel
theorem dX4_becomeVariable_7 : decode cX4_becomeVariable 7 = .ok (.invokevirtual 31, 3) := by decide +kernel
theorem dX4_becomeVariable_10 : decode cX4_becomeVariable 10 = .ok (.return_, 1) := by decide +kernel
theorem dX4_copy_0 : decode cX4_copy 0 = .ok (.iconst 0, 1) := by decide +kernel
theorem dX4_copy_1 : decode cX4_copy 1 = .ok (.istore_n 2, 1) := by decide +kernel
theorem dX4_copy_2 : decode cX4_copy 2 = .ok (.iload_n 2, 1) := by decide +kernel
theorem dX4_copy_3 : decode cX4_copy 3 = .ok (.bipush 13, 2) := by decide +kernel
theorem dX4_copy_5 : decode cX4_copy 5 = .ok (.if_icmp .ge 21, 3) := by decide +kernel
theorem dX4_copy_8 : decode cX4_copy 8 = .ok (.aload_n 0, 1) := by decide +kernel
theorem dX4_copy_9 : decode cX4_copy 9 = .ok (.getfield 11, 3) := by decide +kernel
theorem dX4_copy_12 : decode cX4_copy 12 = .ok (.iload_n 2, 1) := by decide +kernel
theorem dX4_copy_13 : decode cX4_copy 13 = .ok (.aload_n 1, 1) := by decide +kernel
theorem dX4_copy_14 : decode cX4_copy 14 = .ok (.getfield 11, 3) := by decide +kernel
theorem dX4_copy_17 : decode cX4_copy 17 = .ok (.iload_n 2, 1) := by decide +kernel
theorem dX4_copy_18 : decode cX4_copy 18 = .ok (.iaload, 1) := by decide +kernel
theorem dX4_copy_19 : decode cX4_copy 19 = .ok (.iastore, 1) := by decide +kernel
theorem dX4_copy_20 : decode cX4_copy 20 = .ok (.iinc 2 1, 3) := by decide +kernel
theorem dX4_copy_23 : decode cX4_copy 23 = .ok (.goto (-21), 3) := by decide +kernel
theorem dX4_copy_26 : decode cX4_copy 26 = .ok (.aload_n 0, 1) := by decide +kernel
theorem dX4_copy_27 : decode cX4_copy 27 = .ok (.aload_n 1, 1) := by decide +kernel
theorem dX4_copy_28 : decode cX4_copy 28 = .ok (.getfield 15, 3) := by decide +kernel
theorem dX4_copy_31 : decode cX4_copy 31 = .ok (.putfield 15, 3) := by decide +kernel
theorem dX4_copy_34 : decode cX4_copy 34 = .ok (.return_, 1) := by decide +kernel
theorem dX4_addMultiple_0 : decode cX4_addMultiple 0 = .ok (.aload_n 2, 1) := by decide +kernel
theorem dX4_addMultiple_1 : decode cX4_addMultiple 1 = .ok (.getfield 15, 3) := by decide +kernel
theorem dX4_addMultiple_4 : decode cX4_addMultiple 4 = .ok (.iload_n 3, 1) := by decide +kernel
theorem dX4_addMultiple_5 : decode cX4_addMultiple 5 = .ok (.iadd, 1) := by decide +kernel
theorem dX4_addMultiple_6 : decode cX4_addMultiple 6 = .ok (.istore 5, 2) := by decide +kernel
theorem dX4_addMultiple_8 : decode cX4_addMultiple 8 = .ok (.iload 4, 2) := by decide +kernel
theorem dX4_addMultiple_10 : decode cX4_addMultiple 10 = .ok (.iconst 2, 1) := by decide +kernel
theorem dX4_addMultiple_11 : decode cX4_addMultiple 11 = .ok (.if_icmp .lt 14, 3) := by decide +kernel
theorem dX4_addMultiple_14 : decode cX4_addMultiple 14 = .ok (.iload_n 3, 1) := by decide +kernel
theorem dX4_addMultiple_15 : decode cX4_addMultiple 15 = .ok (.ifCond .lt 10, 3) := by decide +kernel
theorem dX4_addMultiple_18 : decode cX4_addMultiple 18 = .ok (.iload 5, 2) := by decide +kernel
theorem dX4_addMultiple_20 : decode cX4_addMultiple 20 = .ok (.bipush 13, 2) := by decide +kernel
theorem dX4_addMultiple_22 : decode cX4_addMultiple 22 = .ok (.if_icmp .lt 4, 3) := by decide +kernel
theorem dX4_addMultiple_25 : decode cX4_addMultiple 25 = .ok (.return_, 1) := by decide +kernel
theorem dX4_addMultiple_26 : decode cX4_addMultiple 26 = .ok (.iconst 0, 1) := by decide +kernel
theorem dX4_addMultiple_27 : decode cX4_addMultiple 27 = .ok (.istore 6, 2) := by decide +kernel
theorem dX4_addMultiple_29 : decode cX4_addMultiple 29 = .ok (.iload 6, 2) := by decide +kernel
theorem dX4_addMultiple_31 : decode cX4_addMultiple 31 = .ok (.aload_n 2, 1) := by decide +kernel
theorem dX4_addMultiple_32 : decode cX4_addMultiple 32 = .ok (.getfield 15, 3) := by decide +kernel
theorem dX4_addMultiple_35 : decode cX4_addMultiple 35 = .ok (.if_icmp .gt 57, 3) := by decide +kernel
theorem dX4_addMultiple_38 : decode cX4_addMultiple 38 = .ok (.aload_n 0, 1) := by decide +kernel
theorem dX4_addMultiple_39 : decode cX4_addMultiple 39 = .ok (.getfield 11, 3) := by decide +kernel
theorem dX4_addMultiple_42 : decode cX4_addMultiple 42 = .ok (.iload 6, 2) := by decide +kernel
theorem dX4_addMultiple_44 : decode cX4_addMultiple 44 = .ok (.iload_n 3, 1) := by decide +kernel
theorem dX4_addMultiple_45 : decode cX4_addMultiple 45 = .ok (.iadd, 1) := by decide +kernel
theorem dX4_addMultiple_46 : decode cX4_addMultiple 46 = .ok (.iaload, 1) := by decide +kernel
theorem dX4_addMultiple_47 : decode cX4_addMultiple 47 = .ok (.iload_n 1, 1) := by decide +kernel
theorem dX4_addMultiple_48 : decode cX4_addMultiple 48 = .ok (.aload_n 2, 1) := by decide +kernel
theorem dX4_addMultiple_49 : decode cX4_addMultiple 49 = .ok (.getfield 11, 3) := by decide +kernel
theorem dX4_addMultiple_52 : decode cX4_addMultiple 52 = .ok (.iload 6, 2) := by decide +kernel
theorem dX4_addMultiple_54 : decode cX4_addMultiple 54 = .ok (.iaload, 1) := by decide +kernel
theorem dX4_addMultiple_55 : decode cX4_addMultiple 55 = .ok (.imul, 1) := by decide +kernel
theorem dX4_addMultiple_56 : decode cX4_addMultiple 56 = .ok (.iadd, 1) := by decide +kernel
theorem dX4_addMultiple_57 : decode cX4_addMultiple 57 = .ok (.iload 4, 2) := by decide +kernel
theorem dX4_addMultiple_59 : decode cX4_addMultiple 59 = .ok (.irem, 1) := by decide +kernel
theorem dX4_addMultiple_60 : decode cX4_addMultiple 60 = .ok (.istore 7, 2) := by decide +kernel
theorem dX4_addMultiple_62 : decode cX4_addMultiple 62 = .ok (.aload_n 0, 1) := by decide +kernel
theorem dX4_addMultiple_63 : decode cX4_addMultiple 63 = .ok (.getfield 11, 3) := by decide +kernel
theorem dX4_addMultiple_66 : decode cX4_addMultiple 66 = .ok (.iload 6, 2) := by decide +kernel
theorem dX4_addMultiple_68 : decode cX4_addMultiple 68 = .ok (.iload_n 3, 1) := by decide +kernel
theorem dX4_addMultiple_69 : decode cX4_addMultiple 69 = .ok (.iadd, 1) := by decide +kernel
theorem dX4_addMultiple_70 : decode cX4_addMultiple 70 = .ok (.iload 7, 2) := by decide +kernel
theorem dX4_addMultiple_72 : decode cX4_addMultiple 72 = .ok (.ifCond .ge 11, 3) := by decide +kernel
theorem dX4_addMultiple_75 : decode cX4_addMultiple 75 = .ok (.iload 7, 2) := by decide +kernel
theorem dX4_addMultiple_77 : decode cX4_addMultiple 77 = .ok (.iload 4, 2) := by decide +kernel
theorem dX4_addMultiple_79 : decode cX4_addMultiple 79 = .ok (.iadd, 1) := by decide +kernel
theorem dX4_addMultiple_80 : decode cX4_addMultiple 80 = .ok (.goto 5, 3) := by decide +kernel
theorem dX4_addMultiple_83 : decode cX4_addMultiple 83 = .ok (.iload 7, 2) := by decide +kernel
theorem dX4_addMultiple_85 : decode cX4_addMultiple 85 = .ok (.iastore, 1) := by decide +kernel
theorem dX4_addMultiple_86 : decode cX4_addMultiple 86 = .ok (.iinc 6 1, 3) := by decide +kernel
theorem dX4_addMultiple_89 : decode cX4_addMultiple 89 = .ok (.goto (-60), 3) := by decide +kernel
theorem dX4_addMultiple_92 : decode cX4_addMultiple 92 = .ok (.aload_n 0, 1) := by decide +kernel
theorem dX4_addMultiple_93 : decode cX4_addMultiple 93 = .ok (.aload_n 0, 1) := by decide +kernel
theorem dX4_addMultiple_94 : decode cX4_addMultiple 94 = .ok (.getfield 15, 3) := by decide +kernel
theorem dX4_addMultiple_97 : decode cX4_addMultiple 97 = .ok (.iload 5, 2) := by decide +kernel
theorem dX4_addMultiple_99 : decode cX4_addMultiple 99 = .ok (.invokestatic 19, 3) := by decide +kernel
theorem dX4_addMultiple_102 : decode cX4_addMultiple 102 = .ok (.putfield 15, 3) := by decide +kernel
theorem dX4_addMultiple_105 : decode cX4_addMultiple 105 = .ok (.aload_n 0, 1) := by decide +kernel
theorem dX4_addMultiple_106 : decode cX4_addMultiple 106 = .ok (.invokevirtual 25, 3) := by decide +kernel
theorem dX4_addMultiple_109 : decode cX4_addMultiple 109 = .ok (.return_, 1) := by decide +kernel
theorem dX4_isOne_0 : decode cX4_isOne 0 = .ok (.aload_n 0, 1) := by decide +kernel
theorem dX4_isOne_1 : decode cX4_isOne 1 = .ok (.getfield 15, 3) := by decide +kernel
theorem dX4_isOne_4 : decode cX4_isOne 4 = .ok (.ifCond .ne 17, 3) := by decide +kernel
theorem dX4_isOne_7 : decode cX4_isOne 7 = .ok (.aload_n 0, 1) := by decide +kernel
theorem dX4_isOne_8 : decode cX4_isOne 8 = .ok (.getfield 11, 3) := by decide +kernel
theorem dX4_isOne_11 : decode cX4_isOne 11 = .ok (.iconst 0, 1) := by decide +kernel
theorem dX4_isOne_12 : decode cX4_isOne 12 = .ok (.iaload, 1) := by decide +kernel
theorem dX4_isOne_13 : decode cX4_isOne 13 = .ok (.iconst 1, 1) := by decide +kernel
theorem dX4_isOne_14 : decode cX4_isOne 14 = .ok (.if_icmp .ne 7, 3) := by decide +kernel
theorem dX4_isOne_17 : decode cX4_isOne 17 = .ok (.iconst 1, 1) := by decide +kernel
theorem dX4_isOne_18 : decode cX4_isOne 18 = .ok (.goto 4, 3) := by decide +kernel
theorem dX4_isOne_21 : decode cX4_isOne 21 = .ok (.iconst 0, 1) := by decide +kernel
theorem dX4_isOne_22 : decode cX4_isOne 22 = .ok (.ireturn, 1) := by decide +kernel
theorem dX4_sameAs_0 : decode cX4_sameAs 0 = .ok (.iconst 0, 1) := by decide +kernel
theorem dX4_sameAs_1 : decode cX4_sameAs 1 = .ok (.istore_n 2, 1) := by decide +kernel
theorem dX4_sameAs_2 : decode cX4_sameAs 2 = .ok (.iload_n 2, 1) := by decide +kernel
theorem dX4_sameAs_3 : decode cX4_sameAs 3 = .ok (.bipush 13, 2) := by decide +kernel
theorem dX4_sameAs_5 : decode cX4_sameAs 5 = .ok (.if_icmp .ge 26, 3) := by decide +kernel
theorem dX4_sameAs_8 : decode cX4_sameAs 8 = .ok (.aload_n 0, 1) := by decide +kernel
theorem dX4_sameAs_9 : decode cX4_sameAs 9 = .ok (.getfield 11, 3) := by decide +kernel
theorem dX4_sameAs_12 : decode cX4_sameAs 12 = .ok (.iload_n 2, 1) := by decide +kernel
theorem dX4_sameAs_13 : decode cX4_sameAs 13 = .ok (.iaload, 1) := by decide +kernel
theorem dX4_sameAs_14 : decode cX4_sameAs 14 = .ok (.aload_n 1, 1) := by decide +kernel
theorem dX4_sameAs_15 : decode cX4_sameAs 15 = .ok (.getfield 11, 3) := by decide +kernel
theorem dX4_sameAs_18 : decode cX4_sameAs 18 = .ok (.iload_n 2, 1) := by decide +kernel
theorem dX4_sameAs_19 : decode cX4_sameAs 19 = .ok (.iaload, 1) := by decide +kernel
theorem dX4_sameAs_20 : decode cX4_sameAs 20 = .ok (.if_icmp .eq 5, 3) := by decide +kernel
theorem dX4_sameAs_23 : decode cX4_sameAs 23 = .ok (.iconst 0, 1) := by decide +kernel
theorem dX4_sameAs_24 : decode cX4_sameAs 24 = .ok (.ireturn, 1) := by decide +kernel
theorem dX4_sameAs_25 : decode cX4_sameAs 25 = .ok (.iinc 2 1, 3) := by decide +kernel
theorem dX4_sameAs_28 : decode cX4_sameAs 28 = .ok (.goto (-26), 3) := by decide +kernel
theorem dX4_sameAs_31 : decode cX4_sameAs 31 = .ok (.iconst 1, 1) := by decide +kernel
theorem dX4_sameAs_32 : decode cX4_sameAs 32 = .ok (.ireturn, 1) := by decide +kernel
theorem dX4_comesBefore_0 : decode cX4_comesBefore 0 = .ok (.aload_n 0, 1) := by decide +kernel
theorem dX4_comesBefore_1 : decode cX4_comesBefore 1 = .ok (.getfield 15, 3) := by decide +kernel
theorem dX4_comesBefore_4 : decode cX4_comesBefore 4 = .ok (.aload_n 1, 1) := by decide +kernel
theorem dX4_comesBefore_5 : decode cX4_comesBefore 5 = .ok (.getfield 15, 3) := by decide +kernel
theorem dX4_comesBefore_8 : decode cX4_comesBefore 8 = .ok (.if_icmp .eq 20, 3) := by decide +kernel
theorem dX4_comesBefore_11 : decode cX4_comesBefore 11 = .ok (.aload_n 0, 1) := by decide +kernel
theorem dX4_comesBefore_12 : decode cX4_comesBefore 12 = .ok (.getfield 15, 3) := by decide +kernel
theorem dX4_comesBefore_15 : decode cX4_comesBefore 15 = .ok (.aload_n 1, 1) := by decide +kernel
theorem dX4_comesBefore_16 : decode cX4_comesBefore 16 = .ok (.getfield 15, 3) := by decide +kernel
theorem dX4_comesBefore_19 : decode cX4_comesBefore 19 = .ok (.if_icmp .ge 7, 3) := by decide +kernel
theorem dX4_comesBefore_22 : decode cX4_comesBefore 22 = .ok (.iconst 1, 1) := by decide +kernel
theorem dX4_comesBefore_23 : decode cX4_comesBefore 23 = .ok (.goto 4, 3) := by decide +kernel
theorem dX4_comesBefore_26 : decode cX4_comesBefore 26 = .ok (.iconst 0, 1) := by decide +kernel
theorem dX4_comesBefore_27 : decode cX4_comesBefore 27 = .ok (.ireturn, 1) := by decide +kernel
theorem dX4_comesBefore_28 : decode cX4_comesBefore 28 = .ok (.bipush 12, 2) := by decide +kernel
theorem dX4_comesBefore_30 : decode cX4_comesBefore 30 = .ok (.istore_n 2, 1) := by decide +kernel
theorem dX4_comesBefore_31 : decode cX4_comesBefore 31 = .ok (.iload_n 2, 1) := by decide +kernel
theorem dX4_comesBefore_32 : decode cX4_comesBefore 32 = .ok (.ifCond .lt 45, 3) := by decide +kernel
theorem dX4_comesBefore_35 : decode cX4_comesBefore 35 = .ok (.aload_n 0, 1) := by decide +kernel
theorem dX4_comesBefore_36 : decode cX4_comesBefore 36 = .ok (.getfield 11, 3) := by decide +kernel
theorem dX4_comesBefore_39 : decode cX4_comesBefore 39 = .ok (.iload_n 2, 1) := by decide +kernel
theorem dX4_comesBefore_40 : decode cX4_comesBefore 40 = .ok (.iaload, 1) := by decide +kernel
theorem dX4_comesBefore_41 : decode cX4_comesBefore 41 = .ok (.aload_n 1, 1) := by decide +kernel
theorem dX4_comesBefore_42 : decode cX4_comesBefore 42 = .ok (.getfield 11, 3) := by decide +kernel
theorem dX4_comesBefore_45 : decode cX4_comesBefore 45 = .ok (.iload_n 2, 1) := by decide +kernel
theorem dX4_comesBefore_46 : decode cX4_comesBefore 46 = .ok (.iaload, 1) := by decide +kernel
theorem dX4_comesBefore_47 : decode cX4_comesBefore 47 = .ok (.if_icmp .eq 24, 3) := by decide +kernel
theorem dX4_comesBefore_50 : decode cX4_comesBefore 50 = .ok (.aload_n 0, 1) := by decide +kernel
theorem dX4_comesBefore_51 : decode cX4_comesBefore 51 = .ok (.getfield 11, 3) := by decide +kernel
theorem dX4_comesBefore_54 : decode cX4_comesBefore 54 = .ok (.iload_n 2, 1) := by decide +kernel
theorem dX4_comesBefore_55 : decode cX4_comesBefore 55 = .ok (.iaload, 1) := by decide +kernel
theorem dX4_comesBefore_56 : decode cX4_comesBefore 56 = .ok (.aload_n 1, 1) := by decide +kernel
theorem dX4_comesBefore_57 : decode cX4_comesBefore 57 = .ok (.getfield 11, 3) := by decide +kernel
theorem dX4_comesBefore_60 : decode cX4_comesBefore 60 = .ok (.iload_n 2, 1) := by decide +kernel
theorem dX4_comesBefore_61 : decode cX4_comesBefore 61 = .ok (.iaload, 1) := by decide +kernel
theorem dX4_comesBefore_62 : decode cX4_comesBefore 62 = .ok (.if_icmp .ge 7, 3) := by decide +kernel
theorem dX4_comesBefore_65 : decode cX4_comesBefore 65 = .ok (.iconst 1, 1) := by decide +kernel
theorem dX4_comesBefore_66 : decode cX4_comesBefore 66 = .ok (.goto 4, 3) := by decide +kernel
theorem dX4_comesBefore_69 : decode cX4_comesBefore 69 = .ok (.iconst 0, 1) := by decide +kernel
theorem dX4_comesBefore_70 : decode cX4_comesBefore 70 = .ok (.ireturn, 1) := by decide +kernel
theorem dX4_comesBefore_71 : decode cX4_comesBefore 71 = .ok (.iinc 2 (-1), 3) := by decide +kernel
theorem dX4_comesBefore_74 : decode cX4_comesBefore 74 = .ok (.goto (-43), 3) := by decide +kernel
theorem dX4_comesBefore_77 : decode cX4_comesBefore 77 = .ok (.iconst 0, 1) := by decide +kernel
theorem dX4_comesBefore_78 : decode cX4_comesBefore 78 = .ok (.ireturn, 1) := by decide +kernel
theorem dX4_lowerDegree_0 : decode cX4_lowerDegree 0 = .ok (.aload_n 0, 1) := by decide +kernel
theorem dX4_lowerDegree_1 : decode cX4_lowerDegree 1 = .ok (.getfield 15, 3) := by decide +kernel
theorem dX4_lowerDegree_4 : decode cX4_lowerDegree 4 = .ok (.ifCond .lt 28, 3) := by decide +kernel
theorem dX4_lowerDegree_7 : decode cX4_lowerDegree 7 = .ok (.aload_n 0, 1) := by decide +kernel
theorem dX4_lowerDegree_8 : decode cX4_lowerDegree 8 = .ok (.getfield 11, 3) := by decide +kernel
theorem dX4_lowerDegree_11 : decode cX4_lowerDegree 11 = .ok (.aload_n 0, 1) := by decide +kernel
theorem dX4_lowerDegree_12 : decode cX4_lowerDegree 12 = .ok (.getfield 15, 3) := by decide +kernel
theorem dX4_lowerDegree_15 : decode cX4_lowerDegree 15 = .ok (.iaload, 1) := by decide +kernel
theorem dX4_lowerDegree_16 : decode cX4_lowerDegree 16 = .ok (.ifCond .ne 16, 3) := by decide +kernel
theorem dX4_lowerDegree_19 : decode cX4_lowerDegree 19 = .ok (.aload_n 0, 1) := by decide +kernel
theorem dX4_lowerDegree_20 : decode cX4_lowerDegree 20 = .ok (.dup, 1) := by decide +kernel
theorem dX4_lowerDegree_21 : decode cX4_lowerDegree 21 = .ok (.getfield 15, 3) := by decide +kernel
theorem dX4_lowerDegree_24 : decode cX4_lowerDegree 24 = .ok (.iconst 1, 1) := by decide +kernel
theorem dX4_lowerDegree_25 : decode cX4_lowerDegree 25 = .ok (.isub, 1) := by decide +kernel
theorem dX4_lowerDegree_26 : decode cX4_lowerDegree 26 = .ok (.putfield 15, 3) := by decide +kernel
theorem dX4_lowerDegree_29 : decode cX4_lowerDegree 29 = .ok (.goto (-29), 3) := by decide +kernel
theorem dX4_lowerDegree_32 : decode cX4_lowerDegree 32 = .ok (.return_, 1) := by decide +kernel
theorem dX5_init_0 : decode cX5_init 0 = .ok (.aload_n 0, 1) := by decide +kernel
theorem dX5_init_1 : decode cX5_init 1 = .ok (.invokespecial 3, 3) := by decide +kernel
theorem dX5_init_4 : decode cX5_init 4 = .ok (.aload_n 0, 1) := by decide +kernel
theorem dX5_init_5 : decode cX5_init 5 = .ok (.aload_n 1, 1) := by decide +kernel
theorem dX5_init_6 : decode cX5_init 6 = .ok (.putfield 9, 3) := by decide +kernel
theorem dX5_init_9 : decode cX5_init 9 = .ok (.aload_n 0, 1) := by decide +kernel
theorem dX5_init_10 : decode cX5_init 10 = .ok (.aload_n 2, 1) := by decide +kernel
theorem dX5_init_11 : decode cX5_init 11 = .ok (.putfield 15, 3) := by decide +kernel
theorem dX5_init_14 : decode cX5_init 14 = .ok (.aload_n 0, 1) := by decide +kernel
theorem dX5_init_15 : decode cX5_init 15 = .ok (.aload_n 3, 1) := by decide +kernel
theorem dX5_init_16 : decode cX5_init 16 = .ok (.putfield 19, 3) := by decide +kernel
theorem dX5_init_19 : decode cX5_init 19 = .ok (.aload_n 0, 1) := by decide +kernel
theorem dX5_init_20 : decode cX5_init 20 = .ok (.aload 4, 2) := by decide +kernel
theorem dX5_init_22 : decode cX5_init 22 = .ok (.putfield 23, 3) := by decide +kernel
theorem dX5_init_25 : decode cX5_init 25 = .ok (.aload_n 0, 1) := by decide +kernel
theorem dX5_init_26 : decode cX5_init 26 = .ok (.bipush 6, 2) := by decide +kernel
theorem dX5_init_28 : decode cX5_init 28 = .ok (.anewarray 27, 3) := by decide +kernel
theorem dX5_init_31 : decode cX5_init 31 = .ok (.putfield 29, 3) := by decide +kernel
theorem dX5_init_34 : decode cX5_init 34 = .ok (.aload_n 0, 1) := by decide +kernel
theorem dX5_init_35 : decode cX5_init 35 = .ok (.bipush 6, 2) := by decide +kernel
theorem dX5_init_37 : decode cX5_init 37 = .ok (.anewarray 27, 3) := by decide +kernel
theorem dX5_init_40 : decode cX5_init 40 = .ok (.putfield 33, 3) := by decide +kernel
theorem dX5_init_43 : decode cX5_init 43 = .ok (.iconst 0, 1) := by decide +kernel
theorem dX5_init_44 : decode cX5_init 44 = .ok (.istore 5, 2) := by decide +kernel
theorem dX5_init_46 : decode cX5_init 46 = .ok (.iload 5, 2) := by decide +kernel
theorem dX5_init_48 : decode cX5_init 48 = .ok (.bipush 6, 2) := by decide +kernel
theorem dX5_init_50 : decode cX5_init 50 = .ok (.if_icmp .ge 37, 3) := by decide +kernel
theorem dX5_init_53 : decode cX5_init 53 = .ok (.aload_n 0, 1) := by decide +kernel
theorem dX5_init_54 : decode cX5_init 54 = .ok (.getfield 29, 3) := by decide +kernel
theorem dX5_init_57 : decode cX5_init 57 = .ok (.iload 5, 2) := by decide +kernel
theorem dX5_init_59 : decode cX5_init 59 = .ok (.new 27, 3) := by decide +kernel
theorem dX5_init_62 : decode cX5_init 62 = .ok (.dup, 1) := by decide +kernel
theorem dX5_init_63 : decode cX5_init 63 = .ok (.invokespecial 36, 3) := by decide +kernel
theorem dX5_init_66 : decode cX5_init 66 = .ok (.aastore, 1) := by decide +kernel
theorem dX5_init_67 : decode cX5_init 67 = .ok (.aload_n 0, 1) := by decide +kernel
theorem dX5_init_68 : decode cX5_init 68 = .ok (.getfield 33, 3) := by decide +kernel
theorem dX5_init_71 : decode cX5_init 71 = .ok (.iload 5, 2) := by decide +kernel
theorem dX5_init_73 : decode cX5_init 73 = .ok (.new 27, 3) := by decide +kernel
theorem dX5_init_76 : decode cX5_init 76 = .ok (.dup, 1) := by decide +kernel
theorem dX5_init_77 : decode cX5_init 77 = .ok (.invokespecial 36, 3) := by decide +kernel
theorem dX5_init_80 : decode cX5_init 80 = .ok (.aastore, 1) := by decide +kernel
theorem dX5_init_81 : decode cX5_init 81 = .ok (.iinc 5 1, 3) := by decide +kernel
theorem dX5_init_84 : decode cX5_init 84 = .ok (.goto (-38), 3) := by decide +kernel
theorem dX5_init_87 : decode cX5_init 87 = .ok (.aload_n 0, 1) := by decide +kernel
theorem dX5_init_88 : decode cX5_init 88 = .ok (.bipush 6, 2) := by decide +kernel
theorem dX5_init_90 : decode cX5_init 90 = .ok (.newarray .boolean, 2) := by decide +kernel
theorem dX5_init_92 : decode cX5_init 92 = .ok (.putfield 37, 3) := by decide +kernel
theorem dX5_init_95 : decode cX5_init 95 = .ok (.aload_n 0, 1) := by decide +kernel
theorem dX5_init_96 : decode cX5_init 96 = .ok (.bipush 6, 2) := by decide +kernel
theorem dX5_init_98 : decode cX5_init 98 = .ok (.newarray .boolean, 2) := by decide +kernel
theorem dX5_init_100 : decode cX5_init 100 = .ok (.putfield 41, 3) := by decide +kernel
theorem dX5_init_103 : decode cX5_init 103 = .ok (.aload_n 0, 1) := by decide +kernel
theorem dX5_init_104 : decode cX5_init 104 = .ok (.new 27, 3) := by decide +kernel
theorem dX5_init_107 : decode cX5_init 107 = .ok (.dup, 1) := by decide +kernel
theorem dX5_init_108 : decode cX5_init 108 = .ok (.invokespecial 36, 3) := by decide +kernel
theorem dX5_init_111 : decode cX5_init 111 = .ok (.putfield 44, 3) := by decide +kernel
theorem dX5_init_114 : decode cX5_init 114 = .ok (.aload_n 0, 1) := by decide +kernel
theorem dX5_init_115 : decode cX5_init 115 = .ok (.iconst 0, 1) := by decide +kernel
theorem dX5_init_116 : decode cX5_init 116 = .ok (.putfield 48, 3) := by decide +kernel
theorem dX5_init_119 : decode cX5_init 119 = .ok (.return_, 1) := by decide +kernel
theorem dX5_reckon_0 : decode cX5_reckon 0 = .ok (.aload_n 0, 1) := by decide +kernel
theorem dX5_reckon_1 : decode cX5_reckon 1 = .ok (.iconst 0, 1) := by decide +kernel
theorem dX5_reckon_2 : decode cX5_reckon 2 = .ok (.putfield 48, 3) := by decide +kernel
theorem dX5_reckon_5 : decode cX5_reckon 5 = .ok (.aload_n 0, 1) := by decide +kernel
theorem dX5_reckon_6 : decode cX5_reckon 6 = .ok (.invokevirtual 52, 3) := by decide +kernel
theorem dX5_reckon_9 : decode cX5_reckon 9 = .ok (.iconst 2, 1) := by decide +kernel
theorem dX5_reckon_10 : decode cX5_reckon 10 = .ok (.istore_n 2, 1) := by decide +kernel
theorem dX5_reckon_11 : decode cX5_reckon 11 = .ok (.iload_n 2, 1) := by decide +kernel
theorem dX5_reckon_12 : decode cX5_reckon 12 = .ok (.aload_n 0, 1) := by decide +kernel
theorem dX5_reckon_13 : decode cX5_reckon 13 = .ok (.getfield 15, 3) := by decide +kernel
theorem dX5_reckon_16 : decode cX5_reckon 16 = .ok (.getfield 55, 3) := by decide +kernel
theorem dX5_reckon_19 : decode cX5_reckon 19 = .ok (.if_icmp .ge 235, 3) := by decide +kernel
theorem dX5_reckon_22 : decode cX5_reckon 22 = .ok (.aload_n 0, 1) := by decide +kernel
theorem dX5_reckon_23 : decode cX5_reckon 23 = .ok (.getfield 15, 3) := by decide +kernel
theorem dX5_reckon_26 : decode cX5_reckon 26 = .ok (.iload_n 2, 1) := by decide +kernel
theorem dX5_reckon_27 : decode cX5_reckon 27 = .ok (.invokevirtual 58, 3) := by decide +kernel
theorem dX5_reckon_30 : decode cX5_reckon 30 = .ok (.istore_n 3, 1) := by decide +kernel
theorem dX5_reckon_31 : decode cX5_reckon 31 = .ok (.iload_n 3, 1) := by decide +kernel
theorem dX5_reckon_32 : decode cX5_reckon 32 = .ok (.lookupswitch 191 #[(40, 68), (41, 89), (42, 161), (43, 130), (45, 130), (47, 161), (94, 188)], 68) := by decide +kernel
theorem dX5_reckon_100 : decode cX5_reckon 100 = .ok (.aload_n 0, 1) := by decide +kernel
theorem dX5_reckon_101 : decode cX5_reckon 101 = .ok (.aload_n 0, 1) := by decide +kernel
theorem dX5_reckon_102 : decode cX5_reckon 102 = .ok (.getfield 48, 3) := by decide +kernel
theorem dX5_reckon_105 : decode cX5_reckon 105 = .ok (.iconst 1, 1) := by decide +kernel
theorem dX5_reckon_106 : decode cX5_reckon 106 = .ok (.iadd, 1) := by decide +kernel
theorem dX5_reckon_107 : decode cX5_reckon 107 = .ok (.iconst 5, 1) := by decide +kernel
theorem dX5_reckon_108 : decode cX5_reckon 108 = .ok (.invokestatic 62, 3) := by decide +kernel
theorem dX5_reckon_111 : decode cX5_reckon 111 = .ok (.putfield 48, 3) := by decide +kernel
theorem dX5_reckon_114 : decode cX5_reckon 114 = .ok (.aload_n 0, 1) := by decide +kernel
theorem dX5_reckon_115 : decode cX5_reckon 115 = .ok (.invokevirtual 52, 3) := by decide +kernel
theorem dX5_reckon_118 : decode cX5_reckon 118 = .ok (.goto 130, 3) := by decide +kernel
theorem dX5_reckon_121 : decode cX5_reckon 121 = .ok (.aload_n 0, 1) := by decide +kernel
theorem dX5_reckon_122 : decode cX5_reckon 122 = .ok (.invokevirtual 68, 3) := by decide +kernel
theorem dX5_reckon_125 : decode cX5_reckon 125 = .ok (.aload_n 0, 1) := by decide +kernel
theorem dX5_reckon_126 : decode cX5_reckon 126 = .ok (.invokevirtual 71, 3) := by decide +kernel
theorem dX5_reckon_129 : decode cX5_reckon 129 = .ok (.aload_n 0, 1) := by decide +kernel
theorem dX5_reckon_130 : decode cX5_reckon 130 = .ok (.getfield 44, 3) := by decide +kernel
theorem dX5_reckon_133 : decode cX5_reckon 133 = .ok (.aload_n 0, 1) := by decide +kernel
theorem dX5_reckon_134 : decode cX5_reckon 134 = .ok (.getfield 29, 3) := by decide +kernel
theorem dX5_reckon_137 : decode cX5_reckon 137 = .ok (.aload_n 0, 1) := by decide +kernel
theorem dX5_reckon_138 : decode cX5_reckon 138 = .ok (.getfield 48, 3) := by decide +kernel
theorem dX5_reckon_141 : decode cX5_reckon 141 = .ok (.aaload, 1) := by decide +kernel
theorem dX5_reckon_142 : decode cX5_reckon 142 = .ok (.invokevirtual 74, 3) := by decide +kernel
theorem dX5_reckon_145 : decode cX5_reckon 145 = .ok (.aload_n 0, 1) := by decide +kernel
theorem dX5_reckon_146 : decode cX5_reckon 146 = .ok (.aload_n 0, 1) := by decide +kernel
theorem dX5_reckon_147 : decode cX5_reckon 147 = .ok (.getfield 48, 3) := by decide +kernel
theorem dX5_reckon_150 : decode cX5_reckon 150 = .ok (.iconst 1, 1) := by decide +kernel
theorem dX5_reckon_151 : decode cX5_reckon 151 = .ok (.isub, 1) := by decide +kernel
theorem dX5_reckon_152 : decode cX5_reckon 152 = .ok (.iconst 0, 1) := by decide +kernel
theorem dX5_reckon_153 : decode cX5_reckon 153 = .ok (.invokestatic 78, 3) := by decide +kernel
theorem dX5_reckon_156 : decode cX5_reckon 156 = .ok (.putfield 48, 3) := by decide +kernel
theorem dX5_reckon_159 : decode cX5_reckon 159 = .ok (.goto 89, 3) := by decide +kernel
theorem dX5_reckon_162 : decode cX5_reckon 162 = .ok (.aload_n 0, 1) := by decide +kernel
theorem dX5_reckon_163 : decode cX5_reckon 163 = .ok (.invokevirtual 68, 3) := by decide +kernel
theorem dX5_reckon_166 : decode cX5_reckon 166 = .ok (.aload_n 0, 1) := by decide +kernel
theorem dX5_reckon_167 : decode cX5_reckon 167 = .ok (.invokevirtual 71, 3) := by decide +kernel
theorem dX5_reckon_170 : decode cX5_reckon 170 = .ok (.aload_n 0, 1) := by decide +kernel
theorem dX5_reckon_171 : decode cX5_reckon 171 = .ok (.getfield 37, 3) := by decide +kernel
theorem dX5_reckon_174 : decode cX5_reckon 174 = .ok (.aload_n 0, 1) := by decide +kernel
theorem dX5_reckon_175 : decode cX5_reckon 175 = .ok (.getfield 48, 3) := by decide +kernel
theorem dX5_reckon_178 : decode cX5_reckon 178 = .ok (.iload_n 3, 1) := by decide +kernel
theorem dX5_reckon_179 : decode cX5_reckon 179 = .ok (.bipush 45, 2) := by decide +kernel
theorem dX5_reckon_181 : decode cX5_reckon 181 = .ok (.if_icmp .ne 7, 3) := by decide +kernel
theorem dX5_reckon_184 : decode cX5_reckon 184 = .ok (.iconst 1, 1) := by decide +kernel
theorem dX5_reckon_185 : decode cX5_reckon 185 = .ok (.goto 4, 3) := by decide +kernel
theorem dX5_reckon_188 : decode cX5_reckon 188 = .ok (.iconst 0, 1) := by decide +kernel
theorem dX5_reckon_189 : decode cX5_reckon 189 = .ok (.bastore, 1) := by decide +kernel
theorem dX5_reckon_190 : decode cX5_reckon 190 = .ok (.goto 58, 3) := by decide +kernel
theorem dX5_reckon_193 : decode cX5_reckon 193 = .ok (.aload_n 0, 1) := by decide +kernel
theorem dX5_reckon_194 : decode cX5_reckon 194 = .ok (.invokevirtual 68, 3) := by decide +kernel
theorem dX5_reckon_197 : decode cX5_reckon 197 = .ok (.aload_n 0, 1) := by decide +kernel
theorem dX5_reckon_198 : decode cX5_reckon 198 = .ok (.getfield 41, 3) := by decide +kernel
theorem dX5_reckon_201 : decode cX5_reckon 201 = .ok (.aload_n 0, 1) := by decide +kernel
theorem dX5_reckon_202 : decode cX5_reckon 202 = .ok (.getfield 48, 3) := by decide +kernel
theorem dX5_reckon_205 : decode cX5_reckon 205 = .ok (.iload_n 3, 1) := by decide +kernel
theorem dX5_reckon_206 : decode cX5_reckon 206 = .ok (.bipush 47, 2) := by decide +kernel
theorem dX5_reckon_208 : decode cX5_reckon 208 = .ok (.if_icmp .ne 7, 3) := by decide +kernel
theorem dX5_reckon_211 : decode cX5_reckon 211 = .ok (.iconst 1, 1) := by decide +kernel
theorem dX5_reckon_212 : decode cX5_reckon 212 = .ok (.goto 4, 3) := by decide +kernel
theorem dX5_reckon_215 : decode cX5_reckon 215 = .ok (.iconst 0, 1) := by decide +kernel
theorem dX5_reckon_216 : decode cX5_reckon 216 = .ok (.bastore, 1) := by decide +kernel
theorem dX5_reckon_217 : decode cX5_reckon 217 = .ok (.goto 31, 3) := by decide +kernel
theorem dX5_reckon_220 : decode cX5_reckon 220 = .ok (.goto 28, 3) := by decide +kernel
theorem dX5_reckon_223 : decode cX5_reckon 223 = .ok (.aload_n 0, 1) := by decide +kernel
theorem dX5_reckon_224 : decode cX5_reckon 224 = .ok (.iload_n 3, 1) := by decide +kernel
theorem dX5_reckon_225 : decode cX5_reckon 225 = .ok (.aload_n 0, 1) := by decide +kernel
theorem dX5_reckon_226 : decode cX5_reckon 226 = .ok (.getfield 15, 3) := by decide +kernel
theorem dX5_reckon_229 : decode cX5_reckon 229 = .ok (.iload_n 2, 1) := by decide +kernel
theorem dX5_reckon_230 : decode cX5_reckon 230 = .ok (.iconst 1, 1) := by decide +kernel
theorem dX5_reckon_231 : decode cX5_reckon 231 = .ok (.isub, 1) := by decide +kernel
theorem dX5_reckon_232 : decode cX5_reckon 232 = .ok (.invokevirtual 58, 3) := by decide +kernel
theorem dX5_reckon_235 : decode cX5_reckon 235 = .ok (.bipush 94, 2) := by decide +kernel
theorem dX5_reckon_237 : decode cX5_reckon 237 = .ok (.if_icmp .ne 7, 3) := by decide +kernel
theorem dX5_reckon_240 : decode cX5_reckon 240 = .ok (.iconst 1, 1) := by decide +kernel
theorem dX5_reckon_241 : decode cX5_reckon 241 = .ok (.goto 4, 3) := by decide +kernel
theorem dX5_reckon_244 : decode cX5_reckon 244 = .ok (.iconst 0, 1) := by decide +kernel
theorem dX5_reckon_245 : decode cX5_reckon 245 = .ok (.invokevirtual 81, 3) := by decide +kernel
theorem dX5_reckon_248 : decode cX5_reckon 248 = .ok (.iinc 2 1, 3) := by decide +kernel
theorem dX5_reckon_251 : decode cX5_reckon 251 = .ok (.goto (-240), 3) := by decide +kernel
theorem dX5_reckon_254 : decode cX5_reckon 254 = .ok (.aload_n 0, 1) := by decide +kernel
theorem dX5_reckon_255 : decode cX5_reckon 255 = .ok (.invokevirtual 68, 3) := by decide +kernel
theorem dX5_reckon_258 : decode cX5_reckon 258 = .ok (.aload_n 0, 1) := by decide +kernel
theorem dX5_reckon_259 : decode cX5_reckon 259 = .ok (.invokevirtual 71, 3) := by decide +kernel
theorem dX5_reckon_262 : decode cX5_reckon 262 = .ok (.aload_n 1, 1) := by decide +kernel
theorem dX5_reckon_263 : decode cX5_reckon 263 = .ok (.aload_n 0, 1) := by decide +kernel
theorem dX5_reckon_264 : decode cX5_reckon 264 = .ok (.getfield 29, 3) := by decide +kernel
theorem dX5_reckon_267 : decode cX5_reckon 267 = .ok (.aload_n 0, 1) := by decide +kernel
theorem dX5_reckon_268 : decode cX5_reckon 268 = .ok (.getfield 48, 3) := by decide +kernel
theorem dX5_reckon_271 : decode cX5_reckon 271 = .ok (.aaload, 1) := by decide +kernel
theorem dX5_reckon_272 : decode cX5_reckon 272 = .ok (.invokevirtual 74, 3) := by decide +kernel
theorem dX5_reckon_275 : decode cX5_reckon 275 = .ok (.return_, 1) := by decide +kernel
theorem dX5_startSum_0 : decode cX5_startSum 0 = .ok (.aload_n 0, 1) := by decide +kernel
theorem dX5_startSum_1 : decode cX5_startSum 1 = .ok (.getfield 29, 3) := by decide +kernel
theorem dX5_startSum_4 : decode cX5_startSum 4 = .ok (.aload_n 0, 1) := by decide +kernel
theorem dX5_startSum_5 : decode cX5_startSum 5 = .ok (.getfield 48, 3) := by decide +kernel
theorem dX5_startSum_8 : decode cX5_startSum 8 = .ok (.aaload, 1) := by decide +kernel
theorem dX5_startSum_9 : decode cX5_startSum 9 = .ok (.invokevirtual 85, 3) := by decide +kernel
theorem dX5_startSum_12 : decode cX5_startSum 12 = .ok (.aload_n 0, 1) := by decide +kernel
theorem dX5_startSum_13 : decode cX5_startSum 13 = .ok (.getfield 37, 3) := by decide +kernel
theorem dX5_startSum_16 : decode cX5_startSum 16 = .ok (.aload_n 0, 1) := by decide +kernel
theorem dX5_startSum_17 : decode cX5_startSum 17 = .ok (.getfield 48, 3) := by decide +kernel
theorem dX5_startSum_20 : decode cX5_startSum 20 = .ok (.iconst 0, 1) := by decide +kernel
theorem dX5_startSum_21 : decode cX5_startSum 21 = .ok (.bastore, 1) := by decide +kernel
theorem dX5_startSum_22 : decode cX5_startSum 22 = .ok (.aload_n 0, 1) := by decide +kernel
theorem dX5_startSum_23 : decode cX5_startSum 23 = .ok (.invokevirtual 88, 3) := by decide +kernel
theorem dX5_startSum_26 : decode cX5_startSum 26 = .ok (.return_, 1) := by decide +kernel
theorem dX5_startProduct_0 : decode cX5_startProduct 0 = .ok (.aload_n 0, 1) := by decide +kernel
theorem dX5_startProduct_1 : decode cX5_startProduct 1 = .ok (.getfield 33, 3) := by decide +kernel
theorem dX5_startProduct_4 : decode cX5_startProduct 4 = .ok (.aload_n 0, 1) := by decide +kernel
theorem dX5_startProduct_5 : decode cX5_startProduct 5 = .ok (.getfield 48, 3) := by decide +kernel
theorem dX5_startProduct_8 : decode cX5_startProduct 8 = .ok (.aaload, 1) := by decide +kernel
theorem dX5_startProduct_9 : decode cX5_startProduct 9 = .ok (.iconst 1, 1) := by decide +kernel
theorem dX5_startProduct_10 : decode cX5_startProduct 10 = .ok (.invokevirtual 91, 3) := by decide +kernel
theorem dX5_startProduct_13 : decode cX5_startProduct 13 = .ok (.aload_n 0, 1) := by decide +kernel
theorem dX5_startProduct_14 : decode cX5_startProduct 14 = .ok (.getfield 41, 3) := by decide +kernel
theorem dX5_startProduct_17 : decode cX5_startProduct 17 = .ok (.aload_n 0, 1) := by decide +kernel
theorem dX5_startProduct_18 : decode cX5_startProduct 18 = .ok (.getfield 48, 3) := by decide +kernel
theorem dX5_startProduct_21 : decode cX5_startProduct 21 = .ok (.iconst 0, 1) := by decide +kernel
theorem dX5_startProduct_22 : decode cX5_startProduct 22 = .ok (.bastore, 1) := by decide +kernel
theorem dX5_startProduct_23 : decode cX5_startProduct 23 = .ok (.return_, 1) := by decide +kernel
theorem dX5_endFactor_0 : decode cX5_endFactor 0 = .ok (.aload_n 0, 1) := by decide +kernel
theorem dX5_endFactor_1 : decode cX5_endFactor 1 = .ok (.getfield 33, 3) := by decide +kernel
theorem dX5_endFactor_4 : decode cX5_endFactor 4 = .ok (.aload_n 0, 1) := by decide +kernel
theorem dX5_endFactor_5 : decode cX5_endFactor 5 = .ok (.getfield 48, 3) := by decide +kernel
theorem dX5_endFactor_8 : decode cX5_endFactor 8 = .ok (.aaload, 1) := by decide +kernel
theorem dX5_endFactor_9 : decode cX5_endFactor 9 = .ok (.astore_n 1, 1) := by decide +kernel
theorem dX5_endFactor_10 : decode cX5_endFactor 10 = .ok (.aload_n 0, 1) := by decide +kernel
theorem dX5_endFactor_11 : decode cX5_endFactor 11 = .ok (.getfield 41, 3) := by decide +kernel
theorem dX5_endFactor_14 : decode cX5_endFactor 14 = .ok (.aload_n 0, 1) := by decide +kernel
theorem dX5_endFactor_15 : decode cX5_endFactor 15 = .ok (.getfield 48, 3) := by decide +kernel
theorem dX5_endFactor_18 : decode cX5_endFactor 18 = .ok (.baload, 1) := by decide +kernel
theorem dX5_endFactor_19 : decode cX5_endFactor 19 = .ok (.ifCond .eq 30, 3) := by decide +kernel
theorem dX5_endFactor_22 : decode cX5_endFactor 22 = .ok (.aload_n 0, 1) := by decide +kernel
theorem dX5_endFactor_23 : decode cX5_endFactor 23 = .ok (.getfield 23, 3) := by decide +kernel
theorem dX5_endFactor_26 : decode cX5_endFactor 26 = .ok (.aload_n 0, 1) := by decide +kernel
theorem dX5_endFactor_27 : decode cX5_endFactor 27 = .ok (.getfield 44, 3) := by decide +kernel
theorem dX5_endFactor_30 : decode cX5_endFactor 30 = .ok (.invokevirtual 95, 3) := by decide +kernel
theorem dX5_endFactor_33 : decode cX5_endFactor 33 = .ok (.aload_n 0, 1) := by decide +kernel
theorem dX5_endFactor_34 : decode cX5_endFactor 34 = .ok (.getfield 19, 3) := by decide +kernel
theorem dX5_endFactor_37 : decode cX5_endFactor 37 = .ok (.aload_n 1, 1) := by decide +kernel
theorem dX5_endFactor_38 : decode cX5_endFactor 38 = .ok (.aload_n 1, 1) := by decide +kernel
theorem dX5_endFactor_39 : decode cX5_endFactor 39 = .ok (.aload_n 0, 1) := by decide +kernel
theorem dX5_endFactor_40 : decode cX5_endFactor 40 = .ok (.getfield 44, 3) := by decide +kernel
theorem dX5_endFactor_43 : decode cX5_endFactor 43 = .ok (.invokevirtual 100, 3) := by decide +kernel
theorem dX5_endFactor_46 : decode cX5_endFactor 46 = .ok (.goto 16, 3) := by decide +kernel
theorem dX5_endFactor_49 : decode cX5_endFactor 49 = .ok (.aload_n 0, 1) := by decide +kernel
theorem dX5_endFactor_50 : decode cX5_endFactor 50 = .ok (.getfield 19, 3) := by decide +kernel
theorem dX5_endFactor_53 : decode cX5_endFactor 53 = .ok (.aload_n 1, 1) := by decide +kernel
theorem dX5_endFactor_54 : decode cX5_endFactor 54 = .ok (.aload_n 1, 1) := by decide +kernel
theorem dX5_endFactor_55 : decode cX5_endFactor 55 = .ok (.aload_n 0, 1) := by decide +kernel
theorem dX5_endFactor_56 : decode cX5_endFactor 56 = .ok (.getfield 44, 3) := by decide +kernel
theorem dX5_endFactor_59 : decode cX5_endFactor 59 = .ok (.invokevirtual 106, 3) := by decide +kernel
theorem dX5_endFactor_62 : decode cX5_endFactor 62 = .ok (.return_, 1) := by decide +kernel
theorem dX5_endProduct_0 : decode cX5_endProduct 0 = .ok (.aload_n 0, 1) := by decide +kernel
theorem dX5_endProduct_1 : decode cX5_endProduct 1 = .ok (.getfield 19, 3) := by decide +kernel
theorem dX5_endProduct_4 : decode cX5_endProduct 4 = .ok (.aload_n 0, 1) := by decide +kernel
theorem dX5_endProduct_5 : decode cX5_endProduct 5 = .ok (.getfield 29, 3) := by decide +kernel
theorem dX5_endProduct_8 : decode cX5_endProduct 8 = .ok (.aload_n 0, 1) := by decide +kernel
theorem dX5_endProduct_9 : decode cX5_endProduct 9 = .ok (.getfield 48, 3) := by decide +kernel
theorem dX5_endProduct_12 : decode cX5_endProduct 12 = .ok (.aaload, 1) := by decide +kernel
theorem dX5_endProduct_13 : decode cX5_endProduct 13 = .ok (.aload_n 0, 1) := by decide +kernel
theorem dX5_endProduct_14 : decode cX5_endProduct 14 = .ok (.getfield 33, 3) := by decide +kernel
theorem dX5_endProduct_17 : decode cX5_endProduct 17 = .ok (.aload_n 0, 1) := by decide +kernel
theorem dX5_endProduct_18 : decode cX5_endProduct 18 = .ok (.getfield 48, 3) := by decide +kernel
theorem dX5_endProduct_21 : decode cX5_endProduct 21 = .ok (.aaload, 1) := by decide +kernel
theorem dX5_endProduct_22 : decode cX5_endProduct 22 = .ok (.aload_n 0, 1) := by decide +kernel
theorem dX5_endProduct_23 : decode cX5_endProduct 23 = .ok (.getfield 37, 3) := by decide +kernel
theorem dX5_endProduct_26 : decode cX5_endProduct 26 = .ok (.aload_n 0, 1) := by decide +kernel
theorem dX5_endProduct_27 : decode cX5_endProduct 27 = .ok (.getfield 48, 3) := by decide +kernel
theorem dX5_endProduct_30 : decode cX5_endProduct 30 = .ok (.baload, 1) := by decide +kernel
theorem dX5_endProduct_31 : decode cX5_endProduct 31 = .ok (.invokevirtual 109, 3) := by decide +kernel
theorem dX5_endProduct_34 : decode cX5_endProduct 34 = .ok (.aload_n 0, 1) := by decide +kernel
theorem dX5_endProduct_35 : decode cX5_endProduct 35 = .ok (.invokevirtual 88, 3) := by decide +kernel
theorem dX5_endProduct_38 : decode cX5_endProduct 38 = .ok (.return_, 1) := by decide +kernel
theorem dX5_takeSimpleOrExponent_0 : decode cX5_takeSimpleOrExponent 0 = .ok (.iload_n 2, 1) := by decide +kernel
theorem dX5_takeSimpleOrExponent_1 : decode cX5_takeSimpleOrExponent 1 = .ok (.ifCond .eq 25, 3) := by decide +kernel
theorem dX5_takeSimpleOrExponent_4 : decode cX5_takeSimpleOrExponent 4 = .ok (.aload_n 0, 1) := by decide +kernel
theorem dX5_takeSimpleOrExponent_5 : decode cX5_takeSimpleOrExponent 5 = .ok (.getfield 19, 3) := by decide +kernel
theorem dX5_takeSimpleOrExponent_8 : decode cX5_takeSimpleOrExponent 8 = .ok (.aload_n 0, 1) := by decide +kernel
theorem dX5_takeSimpleOrExponent_9 : decode cX5_takeSimpleOrExponent 9 = .ok (.getfield 44, 3) := by decide +kernel
theorem dX5_takeSimpleOrExponent_12 : decode cX5_takeSimpleOrExponent 12 = .ok (.aload_n 0, 1) := by decide +kernel
theorem dX5_takeSimpleOrExponent_13 : decode cX5_takeSimpleOrExponent 13 = .ok (.getfield 44, 3) := by decide +kernel
theorem dX5_takeSimpleOrExponent_16 : decode cX5_takeSimpleOrExponent 16 = .ok (.iload_n 1, 1) := by decide +kernel
theorem dX5_takeSimpleOrExponent_17 : decode cX5_takeSimpleOrExponent 17 = .ok (.bipush 48, 2) := by decide +kernel
theorem dX5_takeSimpleOrExponent_19 : decode cX5_takeSimpleOrExponent 19 = .ok (.isub, 1) := by decide +kernel
theorem dX5_takeSimpleOrExponent_20 : decode cX5_takeSimpleOrExponent 20 = .ok (.invokevirtual 113, 3) := by decide +kernel
theorem dX5_takeSimpleOrExponent_23 : decode cX5_takeSimpleOrExponent 23 = .ok (.goto 70, 3) := by decide +kernel
theorem dX5_takeSimpleOrExponent_26 : decode cX5_takeSimpleOrExponent 26 = .ok (.iload_n 1, 1) := by decide +kernel
theorem dX5_takeSimpleOrExponent_27 : decode cX5_takeSimpleOrExponent 27 = .ok (.bipush 120, 2) := by decide +kernel
theorem dX5_takeSimpleOrExponent_29 : decode cX5_takeSimpleOrExponent 29 = .ok (.if_icmp .ne 17, 3) := by decide +kernel
theorem dX5_takeSimpleOrExponent_32 : decode cX5_takeSimpleOrExponent 32 = .ok (.aload_n 0, 1) := by decide +kernel
theorem dX5_takeSimpleOrExponent_33 : decode cX5_takeSimpleOrExponent 33 = .ok (.getfield 19, 3) := by decide +kernel
theorem dX5_takeSimpleOrExponent_36 : decode cX5_takeSimpleOrExponent 36 = .ok (.aload_n 0, 1) := by decide +kernel
theorem dX5_takeSimpleOrExponent_37 : decode cX5_takeSimpleOrExponent 37 = .ok (.getfield 44, 3) := by decide +kernel
theorem dX5_takeSimpleOrExponent_40 : decode cX5_takeSimpleOrExponent 40 = .ok (.invokevirtual 117, 3) := by decide +kernel
theorem dX5_takeSimpleOrExponent_43 : decode cX5_takeSimpleOrExponent 43 = .ok (.goto 50, 3) := by decide +kernel
theorem dX5_takeSimpleOrExponent_46 : decode cX5_takeSimpleOrExponent 46 = .ok (.iload_n 1, 1) := by decide +kernel
theorem dX5_takeSimpleOrExponent_47 : decode cX5_takeSimpleOrExponent 47 = .ok (.invokestatic 120, 3) := by decide +kernel
theorem dX5_takeSimpleOrExponent_50 : decode cX5_takeSimpleOrExponent 50 = .ok (.ifCond .eq 25, 3) := by decide +kernel
theorem dX5_takeSimpleOrExponent_53 : decode cX5_takeSimpleOrExponent 53 = .ok (.aload_n 0, 1) := by decide +kernel
theorem dX5_takeSimpleOrExponent_54 : decode cX5_takeSimpleOrExponent 54 = .ok (.getfield 44, 3) := by decide +kernel
theorem dX5_takeSimpleOrExponent_57 : decode cX5_takeSimpleOrExponent 57 = .ok (.aload_n 0, 1) := by decide +kernel
theorem dX5_takeSimpleOrExponent_58 : decode cX5_takeSimpleOrExponent 58 = .ok (.getfield 9, 3) := by decide +kernel
theorem dX5_takeSimpleOrExponent_61 : decode cX5_takeSimpleOrExponent 61 = .ok (.getfield 124, 3) := by decide +kernel
theorem dX5_takeSimpleOrExponent_64 : decode cX5_takeSimpleOrExponent 64 = .ok (.iload_n 1, 1) := by decide +kernel
theorem dX5_takeSimpleOrExponent_65 : decode cX5_takeSimpleOrExponent 65 = .ok (.bipush 97, 2) := by decide +kernel
theorem dX5_takeSimpleOrExponent_67 : decode cX5_takeSimpleOrExponent 67 = .ok (.isub, 1) := by decide +kernel
theorem dX5_takeSimpleOrExponent_68 : decode cX5_takeSimpleOrExponent 68 = .ok (.aaload, 1) := by decide +kernel
theorem dX5_takeSimpleOrExponent_69 : decode cX5_takeSimpleOrExponent 69 = .ok (.invokevirtual 74, 3) := by decide +kernel
theorem dX5_takeSimpleOrExponent_72 : decode cX5_takeSimpleOrExponent 72 = .ok (.goto 21, 3) := by decide +kernel
theorem dX5_takeSimpleOrExponent_75 : decode cX5_takeSimpleOrExponent 75 = .ok (.aload_n 0, 1) := by decide +kernel
theorem dX5_takeSimpleOrExponent_76 : decode cX5_takeSimpleOrExponent 76 = .ok (.getfield 44, 3) := by decide +kernel
theorem dX5_takeSimpleOrExponent_79 : decode cX5_takeSimpleOrExponent 79 = .ok (.aload_n 0, 1) := by decide +kernel
theorem dX5_takeSimpleOrExponent_80 : decode cX5_takeSimpleOrExponent 80 = .ok (.getfield 9, 3) := by decide +kernel
theorem dX5_takeSimpleOrExponent_83 : decode cX5_takeSimpleOrExponent 83 = .ok (.iload_n 1, 1) := by decide +kernel
theorem dX5_takeSimpleOrExponent_84 : decode cX5_takeSimpleOrExponent 84 = .ok (.bipush 48, 2) := by decide +kernel
theorem dX5_takeSimpleOrExponent_86 : decode cX5_takeSimpleOrExponent 86 = .ok (.isub, 1) := by decide +kernel
theorem dX5_takeSimpleOrExponent_87 : decode cX5_takeSimpleOrExponent 87 = .ok (.invokevirtual 129, 3) := by decide +kernel
theorem dX5_takeSimpleOrExponent_90 : decode cX5_takeSimpleOrExponent 90 = .ok (.invokevirtual 91, 3) := by decide +kernel
theorem dX5_takeSimpleOrExponent_93 : decode cX5_takeSimpleOrExponent 93 = .ok (.return_, 1) := by decide +kernel
theorem dX6_init_0 : decode cX6_init 0 = .ok (.aload_n 0, 1) := by decide +kernel
theorem dX6_init_1 : decode cX6_init 1 = .ok (.invokespecial 3, 3) := by decide +kernel
theorem dX6_init_4 : decode cX6_init 4 = .ok (.aload_n 0, 1) := by decide +kernel
theorem dX6_init_5 : decode cX6_init 5 = .ok (.aload_n 1, 1) := by decide +kernel
theorem dX6_init_6 : decode cX6_init 6 = .ok (.putfield 9, 3) := by decide +kernel
theorem dX6_init_9 : decode cX6_init 9 = .ok (.aload_n 0, 1) := by decide +kernel
theorem dX6_init_10 : decode cX6_init 10 = .ok (.aload_n 2, 1) := by decide +kernel
theorem dX6_init_11 : decode cX6_init 11 = .ok (.putfield 15, 3) := by decide +kernel
theorem dX6_init_14 : decode cX6_init 14 = .ok (.aload_n 0, 1) := by decide +kernel
theorem dX6_init_15 : decode cX6_init 15 = .ok (.new 19, 3) := by decide +kernel
theorem dX6_init_18 : decode cX6_init 18 = .ok (.dup, 1) := by decide +kernel
theorem dX6_init_19 : decode cX6_init 19 = .ok (.invokespecial 21, 3) := by decide +kernel
theorem dX6_init_22 : decode cX6_init 22 = .ok (.putfield 22, 3) := by decide +kernel
theorem dX6_init_25 : decode cX6_init 25 = .ok (.aload_n 0, 1) := by decide +kernel
theorem dX6_init_26 : decode cX6_init 26 = .ok (.new 19, 3) := by decide +kernel
theorem dX6_init_29 : decode cX6_init 29 = .ok (.dup, 1) := by decide +kernel
theorem dX6_init_30 : decode cX6_init 30 = .ok (.invokespecial 21, 3) := by decide +kernel
theorem dX6_init_33 : decode cX6_init 33 = .ok (.putfield 26, 3) := by decide +kernel
theorem dX6_init_36 : decode cX6_init 36 = .ok (.aload_n 0, 1) := by decide +kernel
theorem dX6_init_37 : decode cX6_init 37 = .ok (.new 19, 3) := by decide +kernel
theorem dX6_init_40 : decode cX6_init 40 = .ok (.dup, 1) := by decide +kernel
theorem dX6_init_41 : decode cX6_init 41 = .ok (.invokespecial 21, 3) := by decide +kernel
theorem dX6_init_44 : decode cX6_init 44 = .ok (.putfield 29, 3) := by decide +kernel
theorem dX6_init_47 : decode cX6_init 47 = .ok (.aload_n 0, 1) := by decide +kernel
theorem dX6_init_48 : decode cX6_init 48 = .ok (.new 19, 3) := by decide +kernel
theorem dX6_init_51 : decode cX6_init 51 = .ok (.dup, 1) := by decide +kernel
theorem dX6_init_52 : decode cX6_init 52 = .ok (.invokespecial 21, 3) := by decide +kernel
theorem dX6_init_55 : decode cX6_init 55 = .ok (.putfield 32, 3) := by decide +kernel
theorem dX6_init_58 : decode cX6_init 58 = .ok (.aload_n 0, 1) := by decide +kernel
theorem dX6_init_59 : decode cX6_init 59 = .ok (.new 19, 3) := by decide +kernel
theorem dX6_init_62 : decode cX6_init 62 = .ok (.dup, 1) := by decide +kernel
theorem dX6_init_63 : decode cX6_init 63 = .ok (.invokespecial 21, 3) := by decide +kernel
theorem dX6_init_66 : decode cX6_init 66 = .ok (.putfield 35, 3) := by decide +kernel
theorem dX6_init_69 : decode cX6_init 69 = .ok (.aload_n 0, 1) := by decide +kernel
theorem dX6_init_70 : decode cX6_init 70 = .ok (.new 19, 3) := by decide +kernel
theorem dX6_init_73 : decode cX6_init 73 = .ok (.dup, 1) := by decide +kernel
theorem dX6_init_74 : decode cX6_init 74 = .ok (.invokespecial 21, 3) := by decide +kernel
theorem dX6_init_77 : decode cX6_init 77 = .ok (.putfield 38, 3) := by decide +kernel
theorem dX6_init_80 : decode cX6_init 80 = .ok (.aload_n 0, 1) := by decide +kernel
theorem dX6_init_81 : decode cX6_init 81 = .ok (.new 19, 3) := by decide +kernel
theorem dX6_init_84 : decode cX6_init 84 = .ok (.dup, 1) := by decide +kernel
theorem dX6_init_85 : decode cX6_init 85 = .ok (.invokespecial 21, 3) := by decide +kernel
theorem dX6_init_88 : decode cX6_init 88 = .ok (.putfield 41, 3) := by decide +kernel
theorem dX6_init_91 : decode cX6_init 91 = .ok (.aload_n 0, 1) := by decide +kernel
theorem dX6_init_92 : decode cX6_init 92 = .ok (.new 19, 3) := by decide +kernel
theorem dX6_init_95 : decode cX6_init 95 = .ok (.dup, 1) := by decide +kernel
theorem dX6_init_96 : decode cX6_init 96 = .ok (.invokespecial 21, 3) := by decide +kernel
theorem dX6_init_99 : decode cX6_init 99 = .ok (.putfield 44, 3) := by decide +kernel
theorem dX6_init_102 : decode cX6_init 102 = .ok (.aload_n 0, 1) := by decide +kernel
theorem dX6_init_103 : decode cX6_init 103 = .ok (.bipush 6, 2) := by decide +kernel
theorem dX6_init_105 : decode cX6_init 105 = .ok (.anewarray 19, 3) := by decide +kernel
theorem dX6_init_108 : decode cX6_init 108 = .ok (.putfield 47, 3) := by decide +kernel
theorem dX6_init_111 : decode cX6_init 111 = .ok (.aload_n 0, 1) := by decide +kernel
theorem dX6_init_112 : decode cX6_init 112 = .ok (.bipush 6, 2) := by decide +kernel
theorem dX6_init_114 : decode cX6_init 114 = .ok (.anewarray 19, 3) := by decide +kernel
theorem dX6_init_117 : decode cX6_init 117 = .ok (.putfield 51, 3) := by decide +kernel
theorem dX6_init_120 : decode cX6_init 120 = .ok (.iconst 0, 1) := by decide +kernel
theorem dX6_init_121 : decode cX6_init 121 = .ok (.istore_n 3, 1) := by decide +kernel
theorem dX6_init_122 : decode cX6_init 122 = .ok (.iload_n 3, 1) := by decide +kernel
theorem dX6_init_123 : decode cX6_init 123 = .ok (.bipush 6, 2) := by decide +kernel
theorem dX6_init_125 : decode cX6_init 125 = .ok (.if_icmp .ge 35, 3) := by decide +kernel
theorem dX6_init_128 : decode cX6_init 128 = .ok (.aload_n 0, 1) := by decide +kernel
theorem dX6_init_129 : decode cX6_init 129 = .ok (.getfield 47, 3) := by decide +kernel
theorem dX6_init_132 : decode cX6_init 132 = .ok (.iload_n 3, 1) := by decide +kernel
theorem dX6_init_133 : decode cX6_init 133 = .ok (.new 19, 3) := by decide +kernel
theorem dX6_init_136 : decode cX6_init 136 = .ok (.dup, 1) := by decide +kernel
theorem dX6_init_137 : decode cX6_init 137 = .ok (.invokespecial 21, 3) := by decide +kernel
theorem dX6_init_140 : decode cX6_init 140 = .ok (.aastore, 1) := by decide +kernel
theorem dX6_init_141 : decode cX6_init 141 = .ok (.aload_n 0, 1) := by decide +kernel
theorem dX6_init_142 : decode cX6_init 142 = .ok (.getfield 51, 3) := by decide +kernel
theorem dX6_init_145 : decode cX6_init 145 = .ok (.iload_n 3, 1) := by decide +kernel
theorem dX6_init_146 : decode cX6_init 146 = .ok (.new 19, 3) := by decide +kernel
theorem dX6_init_149 : decode cX6_init 149 = .ok (.dup, 1) := by decide +kernel
theorem dX6_init_150 : decode cX6_init 150 = .ok (.invokespecial 21, 3) := by decide +kernel
theorem dX6_init_153 : decode cX6_init 153 = .ok (.aastore, 1) := by decide +kernel
theorem dX6_init_154 : decode cX6_init 154 = .ok (.iinc 3 1, 3) := by decide +kernel
theorem dX6_init_157 : decode cX6_init 157 = .ok (.goto (-35), 3) := by decide +kernel
theorem dX6_init_160 : decode cX6_init 160 = .ok (.return_, 1) := by decide +kernel
theorem dX6_becomeVariable_0 : decode cX6_becomeVariable 0 = .ok (.aload_n 1, 1) := by decide +kernel
theorem dX6_becomeVariable_1 : decode cX6_becomeVariable 1 = .ok (.invokevirtual 54, 3) := by decide +kernel
theorem dX6_becomeVariable_4 : decode cX6_becomeVariable 4 = .ok (.aload_n 0, 1) := by decide +kernel
theorem dX6_becomeVariable_5 : decode cX6_becomeVariable 5 = .ok (.getfield 15, 3) := by decide +kernel
theorem dX6_becomeVariable_8 : decode cX6_becomeVariable 8 = .ok (.aload_n 1, 1) := by decide +kernel
theorem dX6_becomeVariable_9 : decode cX6_becomeVariable 9 = .ok (.aload_n 0, 1) := by decide +kernel
theorem dX6_becomeVariable_10 : decode cX6_becomeVariable 10 = .ok (.getfield 9, 3) := by decide +kernel
theorem dX6_becomeVariable_13 : decode cX6_becomeVariable 13 = .ok (.getfield 57, 3) := by decide +kernel
theorem dX6_becomeVariable_16 : decode cX6_becomeVariable 16 = .ok (.invokevirtual 62, 3) := by decide +kernel
theorem dX6_becomeVariable_19 : decode cX6_becomeVariable 19 = .ok (.return_, 1) := by decide +kernel
theorem dX6_add_0 : decode cX6_add 0 = .ok (.aload_n 1, 1) := by decide +kernel
theorem dX6_add_1 : decode cX6_add 1 = .ok (.iload_n 3, 1) := by decide +kernel
theorem dX6_add_2 : decode cX6_add 2 = .ok (.ifCond .eq 7, 3) := by decide +kernel
theorem dX6_add_5 : decode cX6_add 5 = .ok (.iconst (-1), 1) := by decide +kernel
theorem dX6_add_6 : decode cX6_add 6 = .ok (.goto 4, 3) := by decide +kernel
theorem dX6_add_9 : decode cX6_add 9 = .ok (.iconst 1, 1) := by decide +kernel
theorem dX6_add_10 : decode cX6_add 10 = .ok (.aload_n 2, 1) := by decide +kernel
theorem dX6_add_11 : decode cX6_add 11 = .ok (.iconst 0, 1) := by decide +kernel
theorem dX6_add_12 : decode cX6_add 12 = .ok (.aload_n 0, 1) := by decide +kernel
theorem dX6_add_13 : decode cX6_add 13 = .ok (.getfield 9, 3) := by decide +kernel
theorem dX6_add_16 : decode cX6_add 16 = .ok (.getfield 68, 3) := by decide +kernel
theorem dX6_add_19 : decode cX6_add 19 = .ok (.invokevirtual 72, 3) := by decide +kernel
theorem dX6_add_22 : decode cX6_add 22 = .ok (.return_, 1) := by decide +kernel
theorem dX6_multiply_0 : decode cX6_multiply 0 = .ok (.aload_n 0, 1) := by decide +kernel
theorem dX6_multiply_1 : decode cX6_multiply 1 = .ok (.getfield 15, 3) := by decide +kernel
theorem dX6_multiply_4 : decode cX6_multiply 4 = .ok (.aload_n 1, 1) := by decide +kernel
theorem dX6_multiply_5 : decode cX6_multiply 5 = .ok (.aload_n 2, 1) := by decide +kernel
theorem dX6_multiply_6 : decode cX6_multiply 6 = .ok (.aload_n 3, 1) := by decide +kernel
theorem dX6_multiply_7 : decode cX6_multiply 7 = .ok (.invokevirtual 76, 3) := by decide +kernel
theorem dX6_multiply_10 : decode cX6_multiply 10 = .ok (.aload_n 0, 1) := by decide +kernel
theorem dX6_multiply_11 : decode cX6_multiply 11 = .ok (.getfield 15, 3) := by decide +kernel
theorem dX6_multiply_14 : decode cX6_multiply 14 = .ok (.aload_n 1, 1) := by decide +kernel
theorem dX6_multiply_15 : decode cX6_multiply 15 = .ok (.aload_n 0, 1) := by decide +kernel
theorem dX6_multiply_16 : decode cX6_multiply 16 = .ok (.getfield 9, 3) := by decide +kernel
theorem dX6_multiply_19 : decode cX6_multiply 19 = .ok (.getfield 57, 3) := by decide +kernel
theorem dX6_multiply_22 : decode cX6_multiply 22 = .ok (.aload_n 0, 1) := by decide +kernel
theorem dX6_multiply_23 : decode cX6_multiply 23 = .ok (.getfield 22, 3) := by decide +kernel
theorem dX6_multiply_26 : decode cX6_multiply 26 = .ok (.invokevirtual 80, 3) := by decide +kernel
theorem dX6_multiply_29 : decode cX6_multiply 29 = .ok (.return_, 1) := by decide +kernel
theorem dX6_raise_0 : decode cX6_raise 0 = .ok (.aload_n 0, 1) := by decide +kernel
theorem dX6_raise_1 : decode cX6_raise 1 = .ok (.getfield 26, 3) := by decide +kernel
theorem dX6_raise_4 : decode cX6_raise 4 = .ok (.aload_n 2, 1) := by decide +kernel
theorem dX6_raise_5 : decode cX6_raise 5 = .ok (.invokevirtual 83, 3) := by decide +kernel
theorem dX6_raise_8 : decode cX6_raise 8 = .ok (.aload_n 1, 1) := by decide +kernel
theorem dX6_raise_9 : decode cX6_raise 9 = .ok (.iconst 1, 1) := by decide +kernel
theorem dX6_raise_10 : decode cX6_raise 10 = .ok (.invokevirtual 87, 3) := by decide +kernel
theorem dX6_raise_13 : decode cX6_raise 13 = .ok (.iload_n 3, 1) := by decide +kernel
theorem dX6_raise_14 : decode cX6_raise 14 = .ok (.istore 4, 2) := by decide +kernel
theorem dX6_raise_16 : decode cX6_raise 16 = .ok (.iload 4, 2) := by decide +kernel
theorem dX6_raise_18 : decode cX6_raise 18 = .ok (.ifCond .le 52, 3) := by decide +kernel
theorem dX6_raise_21 : decode cX6_raise 21 = .ok (.iload 4, 2) := by decide +kernel
theorem dX6_raise_23 : decode cX6_raise 23 = .ok (.iconst 1, 1) := by decide +kernel
theorem dX6_raise_24 : decode cX6_raise 24 = .ok (.iand, 1) := by decide +kernel
theorem dX6_raise_25 : decode cX6_raise 25 = .ok (.iconst 1, 1) := by decide +kernel
theorem dX6_raise_26 : decode cX6_raise 26 = .ok (.if_icmp .ne 13, 3) := by decide +kernel
theorem dX6_raise_29 : decode cX6_raise 29 = .ok (.aload_n 0, 1) := by decide +kernel
theorem dX6_raise_30 : decode cX6_raise 30 = .ok (.aload_n 1, 1) := by decide +kernel
theorem dX6_raise_31 : decode cX6_raise 31 = .ok (.aload_n 1, 1) := by decide +kernel
theorem dX6_raise_32 : decode cX6_raise 32 = .ok (.aload_n 0, 1) := by decide +kernel
theorem dX6_raise_33 : decode cX6_raise 33 = .ok (.getfield 26, 3) := by decide +kernel
theorem dX6_raise_36 : decode cX6_raise 36 = .ok (.invokevirtual 91, 3) := by decide +kernel
theorem dX6_raise_39 : decode cX6_raise 39 = .ok (.iload 4, 2) := by decide +kernel
theorem dX6_raise_41 : decode cX6_raise 41 = .ok (.iconst 1, 1) := by decide +kernel
theorem dX6_raise_42 : decode cX6_raise 42 = .ok (.if_icmp .le 19, 3) := by decide +kernel
theorem dX6_raise_45 : decode cX6_raise 45 = .ok (.aload_n 0, 1) := by decide +kernel
theorem dX6_raise_46 : decode cX6_raise 46 = .ok (.aload_n 0, 1) := by decide +kernel
theorem dX6_raise_47 : decode cX6_raise 47 = .ok (.getfield 26, 3) := by decide +kernel
theorem dX6_raise_50 : decode cX6_raise 50 = .ok (.aload_n 0, 1) := by decide +kernel
theorem dX6_raise_51 : decode cX6_raise 51 = .ok (.getfield 26, 3) := by decide +kernel
theorem dX6_raise_54 : decode cX6_raise 54 = .ok (.aload_n 0, 1) := by decide +kernel
theorem dX6_raise_55 : decode cX6_raise 55 = .ok (.getfield 26, 3) := by decide +kernel
theorem dX6_raise_58 : decode cX6_raise 58 = .ok (.invokevirtual 91, 3) := by decide +kernel
theorem dX6_raise_61 : decode cX6_raise 61 = .ok (.iload 4, 2) := by decide +kernel
theorem dX6_raise_63 : decode cX6_raise 63 = .ok (.iconst 1, 1) := by decide +kernel
theorem dX6_raise_64 : decode cX6_raise 64 = .ok (.ishr, 1) := by decide +kernel
theorem dX6_raise_65 : decode cX6_raise 65 = .ok (.istore 4, 2) := by decide +kernel
theorem dX6_raise_67 : decode cX6_raise 67 = .ok (.goto (-51), 3) := by decide +kernel
theorem dX6_raise_70 : decode cX6_raise 70 = .ok (.return_, 1) := by decide +kernel
theorem dX6_divide_0 : decode cX6_divide 0 = .ok (.aload_n 0, 1) := by decide +kernel
theorem dX6_divide_1 : decode cX6_divide 1 = .ok (.getfield 15, 3) := by decide +kernel
theorem dX6_divide_4 : decode cX6_divide 4 = .ok (.aload_n 0, 1) := by decide +kernel
theorem dX6_divide_5 : decode cX6_divide 5 = .ok (.getfield 29, 3) := by decide +kernel
theorem dX6_divide_8 : decode cX6_divide 8 = .ok (.aload_n 0, 1) := by decide +kernel
theorem dX6_divide_9 : decode cX6_divide 9 = .ok (.getfield 9, 3) := by decide +kernel
theorem dX6_divide_12 : decode cX6_divide 12 = .ok (.getfield 57, 3) := by decide +kernel
theorem dX6_divide_15 : decode cX6_divide 15 = .ok (.aload_n 3, 1) := by decide +kernel
theorem dX6_divide_16 : decode cX6_divide 16 = .ok (.invokevirtual 92, 3) := by decide +kernel
theorem dX6_divide_19 : decode cX6_divide 19 = .ok (.aload_n 0, 1) := by decide +kernel
theorem dX6_divide_20 : decode cX6_divide 20 = .ok (.getfield 15, 3) := by decide +kernel
theorem dX6_divide_23 : decode cX6_divide 23 = .ok (.aload_n 0, 1) := by decide +kernel
theorem dX6_divide_24 : decode cX6_divide 24 = .ok (.getfield 32, 3) := by decide +kernel
theorem dX6_divide_27 : decode cX6_divide 27 = .ok (.aload_n 0, 1) := by decide +kernel
theorem dX6_divide_28 : decode cX6_divide 28 = .ok (.getfield 9, 3) := by decide +kernel
theorem dX6_divide_31 : decode cX6_divide 31 = .ok (.getfield 57, 3) := by decide +kernel
theorem dX6_divide_34 : decode cX6_divide 34 = .ok (.aload_n 0, 1) := by decide +kernel
theorem dX6_divide_35 : decode cX6_divide 35 = .ok (.getfield 29, 3) := by decide +kernel
theorem dX6_divide_38 : decode cX6_divide 38 = .ok (.invokevirtual 95, 3) := by decide +kernel
theorem dX6_divide_41 : decode cX6_divide 41 = .ok (.aload_n 0, 1) := by decide +kernel
theorem dX6_divide_42 : decode cX6_divide 42 = .ok (.getfield 15, 3) := by decide +kernel
theorem dX6_divide_45 : decode cX6_divide 45 = .ok (.aload_n 0, 1) := by decide +kernel
theorem dX6_divide_46 : decode cX6_divide 46 = .ok (.getfield 38, 3) := by decide +kernel
theorem dX6_divide_49 : decode cX6_divide 49 = .ok (.aload_n 0, 1) := by decide +kernel
theorem dX6_divide_50 : decode cX6_divide 50 = .ok (.getfield 29, 3) := by decide +kernel
theorem dX6_divide_53 : decode cX6_divide 53 = .ok (.aload_n 3, 1) := by decide +kernel
theorem dX6_divide_54 : decode cX6_divide 54 = .ok (.invokevirtual 76, 3) := by decide +kernel
theorem dX6_divide_57 : decode cX6_divide 57 = .ok (.aload_n 0, 1) := by decide +kernel
theorem dX6_divide_58 : decode cX6_divide 58 = .ok (.getfield 15, 3) := by decide +kernel
theorem dX6_divide_61 : decode cX6_divide 61 = .ok (.aload_n 0, 1) := by decide +kernel
theorem dX6_divide_62 : decode cX6_divide 62 = .ok (.getfield 38, 3) := by decide +kernel
theorem dX6_divide_65 : decode cX6_divide 65 = .ok (.aload_n 0, 1) := by decide +kernel
theorem dX6_divide_66 : decode cX6_divide 66 = .ok (.getfield 32, 3) := by decide +kernel
theorem dX6_divide_69 : decode cX6_divide 69 = .ok (.invokevirtual 62, 3) := by decide +kernel
theorem dX6_divide_72 : decode cX6_divide 72 = .ok (.aload_n 0, 1) := by decide +kernel
theorem dX6_divide_73 : decode cX6_divide 73 = .ok (.getfield 15, 3) := by decide +kernel
theorem dX6_divide_76 : decode cX6_divide 76 = .ok (.aload_n 0, 1) := by decide +kernel
theorem dX6_divide_77 : decode cX6_divide 77 = .ok (.getfield 35, 3) := by decide +kernel
theorem dX6_divide_80 : decode cX6_divide 80 = .ok (.aload_n 0, 1) := by decide +kernel
theorem dX6_divide_81 : decode cX6_divide 81 = .ok (.getfield 38, 3) := by decide +kernel
theorem dX6_divide_84 : decode cX6_divide 84 = .ok (.aload_n 0, 1) := by decide +kernel
theorem dX6_divide_85 : decode cX6_divide 85 = .ok (.getfield 32, 3) := by decide +kernel
theorem dX6_divide_88 : decode cX6_divide 88 = .ok (.invokevirtual 98, 3) := by decide +kernel
theorem dX6_divide_91 : decode cX6_divide 91 = .ok (.aload_n 0, 1) := by decide +kernel
theorem dX6_divide_92 : decode cX6_divide 92 = .ok (.aload_n 0, 1) := by decide +kernel
theorem dX6_divide_93 : decode cX6_divide 93 = .ok (.getfield 38, 3) := by decide +kernel
theorem dX6_divide_96 : decode cX6_divide 96 = .ok (.aload_n 0, 1) := by decide +kernel
theorem dX6_divide_97 : decode cX6_divide 97 = .ok (.getfield 29, 3) := by decide +kernel
theorem dX6_divide_100 : decode cX6_divide 100 = .ok (.aload_n 0, 1) := by decide +kernel
theorem dX6_divide_101 : decode cX6_divide 101 = .ok (.getfield 35, 3) := by decide +kernel
theorem dX6_divide_104 : decode cX6_divide 104 = .ok (.invokevirtual 91, 3) := by decide +kernel
theorem dX6_divide_107 : decode cX6_divide 107 = .ok (.aload_n 0, 1) := by decide +kernel
theorem dX6_divide_108 : decode cX6_divide 108 = .ok (.aload_n 1, 1) := by decide +kernel
theorem dX6_divide_109 : decode cX6_divide 109 = .ok (.aload_n 2, 1) := by decide +kernel
theorem dX6_divide_110 : decode cX6_divide 110 = .ok (.aload_n 0, 1) := by decide +kernel
theorem dX6_divide_111 : decode cX6_divide 111 = .ok (.getfield 38, 3) := by decide +kernel
theorem dX6_divide_114 : decode cX6_divide 114 = .ok (.invokevirtual 91, 3) := by decide +kernel
theorem dX6_divide_117 : decode cX6_divide 117 = .ok (.return_, 1) := by decide +kernel
theorem dX6_unitOf_0 : decode cX6_unitOf 0 = .ok (.aload_n 0, 1) := by decide +kernel
theorem dX6_unitOf_1 : decode cX6_unitOf 1 = .ok (.getfield 15, 3) := by decide +kernel
theorem dX6_unitOf_4 : decode cX6_unitOf 4 = .ok (.aload_n 1, 1) := by decide +kernel
theorem dX6_unitOf_5 : decode cX6_unitOf 5 = .ok (.aload_n 0, 1) := by decide +kernel
theorem dX6_unitOf_6 : decode cX6_unitOf 6 = .ok (.getfield 9, 3) := by decide +kernel
theorem dX6_unitOf_9 : decode cX6_unitOf 9 = .ok (.getfield 57, 3) := by decide +kernel
theorem dX6_unitOf_12 : decode cX6_unitOf 12 = .ok (.aload_n 2, 1) := by decide +kernel
theorem dX6_unitOf_13 : decode cX6_unitOf 13 = .ok (.invokevirtual 95, 3) := by decide +kernel
theorem dX6_unitOf_16 : decode cX6_unitOf 16 = .ok (.aload_n 0, 1) := by decide +kernel
theorem dX6_unitOf_17 : decode cX6_unitOf 17 = .ok (.aload_n 1, 1) := by decide +kernel
theorem dX6_unitOf_18 : decode cX6_unitOf 18 = .ok (.aload_n 1, 1) := by decide +kernel
theorem dX6_unitOf_19 : decode cX6_unitOf 19 = .ok (.aload_n 1, 1) := by decide +kernel
theorem dX6_unitOf_20 : decode cX6_unitOf 20 = .ok (.invokevirtual 101, 3) := by decide +kernel
theorem dX6_unitOf_23 : decode cX6_unitOf 23 = .ok (.return_, 1) := by decide +kernel
theorem dX6_putTogether_0 : decode cX6_putTogether 0 = .ok (.aload_n 0, 1) := by decide +kernel
theorem dX6_putTogether_1 : decode cX6_putTogether 1 = .ok (.getfield 41, 3) := by decide +kernel
theorem dX6_putTogether_4 : decode cX6_putTogether 4 = .ok (.aload_n 2, 1) := by decide +kernel
theorem dX6_putTogether_5 : decode cX6_putTogether 5 = .ok (.invokevirtual 83, 3) := by decide +kernel
theorem dX6_putTogether_8 : decode cX6_putTogether 8 = .ok (.aload_n 0, 1) := by decide +kernel
theorem dX6_putTogether_9 : decode cX6_putTogether 9 = .ok (.aload_n 0, 1) := by decide +kernel
theorem dX6_putTogether_10 : decode cX6_putTogether 10 = .ok (.getfield 41, 3) := by decide +kernel
theorem dX6_putTogether_13 : decode cX6_putTogether 13 = .ok (.aload 4, 2) := by decide +kernel
theorem dX6_putTogether_15 : decode cX6_putTogether 15 = .ok (.iconst 1, 1) := by decide +kernel
theorem dX6_putTogether_16 : decode cX6_putTogether 16 = .ok (.invokevirtual 102, 3) := by decide +kernel
theorem dX6_putTogether_19 : decode cX6_putTogether 19 = .ok (.aload_n 0, 1) := by decide +kernel
theorem dX6_putTogether_20 : decode cX6_putTogether 20 = .ok (.aload_n 1, 1) := by decide +kernel
theorem dX6_putTogether_21 : decode cX6_putTogether 21 = .ok (.aload_n 3, 1) := by decide +kernel
theorem dX6_putTogether_22 : decode cX6_putTogether 22 = .ok (.invokevirtual 106, 3) := by decide +kernel
theorem dX6_putTogether_25 : decode cX6_putTogether 25 = .ok (.aload_n 0, 1) := by decide +kernel
theorem dX6_putTogether_26 : decode cX6_putTogether 26 = .ok (.aload_n 1, 1) := by decide +kernel
theorem dX6_putTogether_27 : decode cX6_putTogether 27 = .ok (.aload_n 1, 1) := by decide +kernel
theorem dX6_putTogether_28 : decode cX6_putTogether 28 = .ok (.aload_n 0, 1) := by decide +kernel
theorem dX6_putTogether_29 : decode cX6_putTogether 29 = .ok (.getfield 41, 3) := by decide +kernel
theorem dX6_putTogether_32 : decode cX6_putTogether 32 = .ok (.invokevirtual 91, 3) := by decide +kernel
theorem dX6_putTogether_35 : decode cX6_putTogether 35 = .ok (.aload_n 0, 1) := by decide +kernel
theorem dX6_putTogether_36 : decode cX6_putTogether 36 = .ok (.aload_n 1, 1) := by decide +kernel
theorem dX6_putTogether_37 : decode cX6_putTogether 37 = .ok (.aload 4, 2) := by decide +kernel
theorem dX6_putTogether_39 : decode cX6_putTogether 39 = .ok (.iconst 0, 1) := by decide +kernel
theorem dX6_putTogether_40 : decode cX6_putTogether 40 = .ok (.invokevirtual 102, 3) := by decide +kernel
theorem dX6_putTogether_43 : decode cX6_putTogether 43 = .ok (.return_, 1) := by decide +kernel
theorem dX6_traceOf_0 : decode cX6_traceOf 0 = .ok (.aload_n 0, 1) := by decide +kernel
theorem dX6_traceOf_1 : decode cX6_traceOf 1 = .ok (.getfield 38, 3) := by decide +kernel
theorem dX6_traceOf_4 : decode cX6_traceOf 4 = .ok (.aload_n 1, 1) := by decide +kernel
theorem dX6_traceOf_5 : decode cX6_traceOf 5 = .ok (.invokevirtual 83, 3) := by decide +kernel
theorem dX6_traceOf_8 : decode cX6_traceOf 8 = .ok (.aload_n 0, 1) := by decide +kernel
theorem dX6_traceOf_9 : decode cX6_traceOf 9 = .ok (.getfield 41, 3) := by decide +kernel
theorem dX6_traceOf_12 : decode cX6_traceOf 12 = .ok (.invokevirtual 54, 3) := by decide +kernel
theorem dX6_traceOf_15 : decode cX6_traceOf 15 = .ok (.iconst 0, 1) := by decide +kernel
theorem dX6_traceOf_16 : decode cX6_traceOf 16 = .ok (.istore_n 2, 1) := by decide +kernel
theorem dX6_traceOf_17 : decode cX6_traceOf 17 = .ok (.iconst 0, 1) := by decide +kernel
theorem dX6_traceOf_18 : decode cX6_traceOf 18 = .ok (.istore_n 3, 1) := by decide +kernel
theorem dX6_traceOf_19 : decode cX6_traceOf 19 = .ok (.iload_n 3, 1) := by decide +kernel
theorem dX6_traceOf_20 : decode cX6_traceOf 20 = .ok (.aload_n 0, 1) := by decide +kernel
theorem dX6_traceOf_21 : decode cX6_traceOf 21 = .ok (.getfield 9, 3) := by decide +kernel
theorem dX6_traceOf_24 : decode cX6_traceOf 24 = .ok (.getfield 57, 3) := by decide +kernel
theorem dX6_traceOf_27 : decode cX6_traceOf 27 = .ok (.getfield 109, 3) := by decide +kernel
theorem dX6_traceOf_30 : decode cX6_traceOf 30 = .ok (.if_icmp .ge 36, 3) := by decide +kernel
theorem dX6_traceOf_33 : decode cX6_traceOf 33 = .ok (.iload_n 2, 1) := by decide +kernel
theorem dX6_traceOf_34 : decode cX6_traceOf 34 = .ok (.aload_n 0, 1) := by decide +kernel
theorem dX6_traceOf_35 : decode cX6_traceOf 35 = .ok (.getfield 38, 3) := by decide +kernel
theorem dX6_traceOf_38 : decode cX6_traceOf 38 = .ok (.iload_n 3, 1) := by decide +kernel
theorem dX6_traceOf_39 : decode cX6_traceOf 39 = .ok (.invokevirtual 112, 3) := by decide +kernel
theorem dX6_traceOf_42 : decode cX6_traceOf 42 = .ok (.iadd, 1) := by decide +kernel
theorem dX6_traceOf_43 : decode cX6_traceOf 43 = .ok (.istore_n 2, 1) := by decide +kernel
theorem dX6_traceOf_44 : decode cX6_traceOf 44 = .ok (.aload_n 0, 1) := by decide +kernel
theorem dX6_traceOf_45 : decode cX6_traceOf 45 = .ok (.aload_n 0, 1) := by decide +kernel
theorem dX6_traceOf_46 : decode cX6_traceOf 46 = .ok (.getfield 38, 3) := by decide +kernel
theorem dX6_traceOf_49 : decode cX6_traceOf 49 = .ok (.aload_n 0, 1) := by decide +kernel
theorem dX6_traceOf_50 : decode cX6_traceOf 50 = .ok (.getfield 38, 3) := by decide +kernel
theorem dX6_traceOf_53 : decode cX6_traceOf 53 = .ok (.aload_n 0, 1) := by decide +kernel
theorem dX6_traceOf_54 : decode cX6_traceOf 54 = .ok (.getfield 41, 3) := by decide +kernel
theorem dX6_traceOf_57 : decode cX6_traceOf 57 = .ok (.invokevirtual 91, 3) := by decide +kernel
theorem dX6_traceOf_60 : decode cX6_traceOf 60 = .ok (.iinc 3 1, 3) := by decide +kernel
theorem dX6_traceOf_63 : decode cX6_traceOf 63 = .ok (.goto (-44), 3) := by decide +kernel
theorem dX6_traceOf_66 : decode cX6_traceOf 66 = .ok (.aload_n 0, 1) := by decide +kernel
theorem dX6_traceOf_67 : decode cX6_traceOf 67 = .ok (.getfield 9, 3) := by decide +kernel
theorem dX6_traceOf_70 : decode cX6_traceOf 70 = .ok (.iload_n 2, 1) := by decide +kernel
theorem dX6_traceOf_71 : decode cX6_traceOf 71 = .ok (.invokevirtual 116, 3) := by decide +kernel
theorem dX6_traceOf_74 : decode cX6_traceOf 74 = .ok (.ireturn, 1) := by decide +kernel
theorem dX6_findLeastPolynomial_0 : decode cX6_findLeastPolynomial 0 = .ok (.iconst 0, 1) := by decide +kernel
theorem dX6_findLeastPolynomial_1 : decode cX6_findLeastPolynomial 1 = .ok (.istore_n 3, 1) := by decide +kernel
theorem dX6_findLeastPolynomial_2 : decode cX6_findLeastPolynomial 2 = .ok (.iload_n 3, 1) := by decide +kernel
theorem dX6_findLeastPolynomial_3 : decode cX6_findLeastPolynomial 3 = .ok (.bipush 6, 2) := by decide +kernel
theorem dX6_findLeastPolynomial_5 : decode cX6_findLeastPolynomial 5 = .ok (.if_icmp .ge 18, 3) := by decide +kernel
theorem dX6_findLeastPolynomial_8 : decode cX6_findLeastPolynomial 8 = .ok (.aload_n 0, 1) := by decide +kernel
theorem dX6_findLeastPolynomial_9 : decode cX6_findLeastPolynomial 9 = .ok (.getfield 47, 3) := by decide +kernel
theorem dX6_findLeastPolynomial_12 : decode cX6_findLeastPolynomial 12 = .ok (.iload_n 3, 1) := by decide +kernel
theorem dX6_findLeastPolynomial_13 : decode cX6_findLeastPolynomial 13 = .ok (.aaload, 1) := by decide +kernel
theorem dX6_findLeastPolynomial_14 : decode cX6_findLeastPolynomial 14 = .ok (.invokevirtual 119, 3) := by decide +kernel
theorem dX6_findLeastPolynomial_17 : decode cX6_findLeastPolynomial 17 = .ok (.iinc 3 1, 3) := by decide +kernel
theorem dX6_findLeastPolynomial_20 : decode cX6_findLeastPolynomial 20 = .ok (.goto (-18), 3) := by decide +kernel
theorem dX6_findLeastPolynomial_23 : decode cX6_findLeastPolynomial 23 = .ok (.aload_n 0, 1) := by decide +kernel
theorem dX6_findLeastPolynomial_24 : decode cX6_findLeastPolynomial 24 = .ok (.getfield 38, 3) := by decide +kernel
theorem dX6_findLeastPolynomial_27 : decode cX6_findLeastPolynomial 27 = .ok (.iconst 1, 1) := by decide +kernel
theorem dX6_findLeastPolynomial_28 : decode cX6_findLeastPolynomial 28 = .ok (.invokevirtual 87, 3) := by decide +kernel
theorem dX6_findLeastPolynomial_31 : decode cX6_findLeastPolynomial 31 = .ok (.iconst 0, 1) := by decide +kernel
theorem dX6_findLeastPolynomial_32 : decode cX6_findLeastPolynomial 32 = .ok (.istore_n 3, 1) := by decide +kernel
theorem dX6_findLeastPolynomial_33 : decode cX6_findLeastPolynomial 33 = .ok (.iload_n 3, 1) := by decide +kernel
theorem dX6_findLeastPolynomial_34 : decode cX6_findLeastPolynomial 34 = .ok (.aload_n 0, 1) := by decide +kernel
theorem dX6_findLeastPolynomial_35 : decode cX6_findLeastPolynomial 35 = .ok (.getfield 9, 3) := by decide +kernel
theorem dX6_findLeastPolynomial_38 : decode cX6_findLeastPolynomial 38 = .ok (.getfield 57, 3) := by decide +kernel
theorem dX6_findLeastPolynomial_41 : decode cX6_findLeastPolynomial 41 = .ok (.getfield 109, 3) := by decide +kernel
theorem dX6_findLeastPolynomial_44 : decode cX6_findLeastPolynomial 44 = .ok (.if_icmp .gt 105, 3) := by decide +kernel
theorem dX6_findLeastPolynomial_47 : decode cX6_findLeastPolynomial 47 = .ok (.aload_n 0, 1) := by decide +kernel
theorem dX6_findLeastPolynomial_48 : decode cX6_findLeastPolynomial 48 = .ok (.getfield 41, 3) := by decide +kernel
theorem dX6_findLeastPolynomial_51 : decode cX6_findLeastPolynomial 51 = .ok (.aload_n 0, 1) := by decide +kernel
theorem dX6_findLeastPolynomial_52 : decode cX6_findLeastPolynomial 52 = .ok (.getfield 38, 3) := by decide +kernel
theorem dX6_findLeastPolynomial_55 : decode cX6_findLeastPolynomial 55 = .ok (.invokevirtual 83, 3) := by decide +kernel
theorem dX6_findLeastPolynomial_58 : decode cX6_findLeastPolynomial 58 = .ok (.aload_n 0, 1) := by decide +kernel
theorem dX6_findLeastPolynomial_59 : decode cX6_findLeastPolynomial 59 = .ok (.getfield 44, 3) := by decide +kernel
theorem dX6_findLeastPolynomial_62 : decode cX6_findLeastPolynomial 62 = .ok (.invokevirtual 119, 3) := by decide +kernel
theorem dX6_findLeastPolynomial_65 : decode cX6_findLeastPolynomial 65 = .ok (.aload_n 0, 1) := by decide +kernel
theorem dX6_findLeastPolynomial_66 : decode cX6_findLeastPolynomial 66 = .ok (.getfield 44, 3) := by decide +kernel
theorem dX6_findLeastPolynomial_69 : decode cX6_findLeastPolynomial 69 = .ok (.iload_n 3, 1) := by decide +kernel
theorem dX6_findLeastPolynomial_70 : decode cX6_findLeastPolynomial 70 = .ok (.iconst 1, 1) := by decide +kernel
theorem dX6_findLeastPolynomial_71 : decode cX6_findLeastPolynomial 71 = .ok (.invokevirtual 122, 3) := by decide +kernel
theorem dX6_findLeastPolynomial_74 : decode cX6_findLeastPolynomial 74 = .ok (.aload_n 0, 1) := by decide +kernel
theorem dX6_findLeastPolynomial_75 : decode cX6_findLeastPolynomial 75 = .ok (.invokevirtual 126, 3) := by decide +kernel
theorem dX6_findLeastPolynomial_78 : decode cX6_findLeastPolynomial 78 = .ok (.aload_n 0, 1) := by decide +kernel
theorem dX6_findLeastPolynomial_79 : decode cX6_findLeastPolynomial 79 = .ok (.getfield 41, 3) := by decide +kernel
theorem dX6_findLeastPolynomial_82 : decode cX6_findLeastPolynomial 82 = .ok (.getfield 109, 3) := by decide +kernel
theorem dX6_findLeastPolynomial_85 : decode cX6_findLeastPolynomial 85 = .ok (.istore 4, 2) := by decide +kernel
theorem dX6_findLeastPolynomial_87 : decode cX6_findLeastPolynomial 87 = .ok (.iload 4, 2) := by decide +kernel
theorem dX6_findLeastPolynomial_89 : decode cX6_findLeastPolynomial 89 = .ok (.ifCond .lt 60, 3) := by decide +kernel
theorem dX6_findLeastPolynomial_92 : decode cX6_findLeastPolynomial 92 = .ok (.iload 4, 2) := by decide +kernel
theorem dX6_findLeastPolynomial_94 : decode cX6_findLeastPolynomial 94 = .ok (.bipush 6, 2) := by decide +kernel
theorem dX6_findLeastPolynomial_96 : decode cX6_findLeastPolynomial 96 = .ok (.if_icmp .lt 6, 3) := by decide +kernel
theorem dX6_findLeastPolynomial_99 : decode cX6_findLeastPolynomial 99 = .ok (.goto 50, 3) := by decide +kernel
theorem dX6_findLeastPolynomial_102 : decode cX6_findLeastPolynomial 102 = .ok (.aload_n 0, 1) := by decide +kernel
theorem dX6_findLeastPolynomial_103 : decode cX6_findLeastPolynomial 103 = .ok (.getfield 47, 3) := by decide +kernel
theorem dX6_findLeastPolynomial_106 : decode cX6_findLeastPolynomial 106 = .ok (.iload 4, 2) := by decide +kernel
theorem dX6_findLeastPolynomial_108 : decode cX6_findLeastPolynomial 108 = .ok (.aaload, 1) := by decide +kernel
theorem dX6_findLeastPolynomial_109 : decode cX6_findLeastPolynomial 109 = .ok (.aload_n 0, 1) := by decide +kernel
theorem dX6_findLeastPolynomial_110 : decode cX6_findLeastPolynomial 110 = .ok (.getfield 41, 3) := by decide +kernel
theorem dX6_findLeastPolynomial_113 : decode cX6_findLeastPolynomial 113 = .ok (.invokevirtual 83, 3) := by decide +kernel
theorem dX6_findLeastPolynomial_116 : decode cX6_findLeastPolynomial 116 = .ok (.aload_n 0, 1) := by decide +kernel
theorem dX6_findLeastPolynomial_117 : decode cX6_findLeastPolynomial 117 = .ok (.getfield 51, 3) := by decide +kernel
theorem dX6_findLeastPolynomial_120 : decode cX6_findLeastPolynomial 120 = .ok (.iload 4, 2) := by decide +kernel
theorem dX6_findLeastPolynomial_122 : decode cX6_findLeastPolynomial 122 = .ok (.aaload, 1) := by decide +kernel
theorem dX6_findLeastPolynomial_123 : decode cX6_findLeastPolynomial 123 = .ok (.aload_n 0, 1) := by decide +kernel
theorem dX6_findLeastPolynomial_124 : decode cX6_findLeastPolynomial 124 = .ok (.getfield 44, 3) := by decide +kernel
theorem dX6_findLeastPolynomial_127 : decode cX6_findLeastPolynomial 127 = .ok (.invokevirtual 83, 3) := by decide +kernel
theorem dX6_findLeastPolynomial_130 : decode cX6_findLeastPolynomial 130 = .ok (.aload_n 0, 1) := by decide +kernel
theorem dX6_findLeastPolynomial_131 : decode cX6_findLeastPolynomial 131 = .ok (.aload_n 0, 1) := by decide +kernel
theorem dX6_findLeastPolynomial_132 : decode cX6_findLeastPolynomial 132 = .ok (.getfield 38, 3) := by decide +kernel
theorem dX6_findLeastPolynomial_135 : decode cX6_findLeastPolynomial 135 = .ok (.aload_n 0, 1) := by decide +kernel
theorem dX6_findLeastPolynomial_136 : decode cX6_findLeastPolynomial 136 = .ok (.getfield 38, 3) := by decide +kernel
theorem dX6_findLeastPolynomial_139 : decode cX6_findLeastPolynomial 139 = .ok (.aload_n 2, 1) := by decide +kernel
theorem dX6_findLeastPolynomial_140 : decode cX6_findLeastPolynomial 140 = .ok (.invokevirtual 91, 3) := by decide +kernel
theorem dX6_findLeastPolynomial_143 : decode cX6_findLeastPolynomial 143 = .ok (.iinc 3 1, 3) := by decide +kernel
theorem dX6_findLeastPolynomial_146 : decode cX6_findLeastPolynomial 146 = .ok (.goto (-113), 3) := by decide +kernel
theorem dX6_findLeastPolynomial_149 : decode cX6_findLeastPolynomial 149 = .ok (.aload_n 1, 1) := by decide +kernel
theorem dX6_findLeastPolynomial_150 : decode cX6_findLeastPolynomial 150 = .ok (.aload_n 0, 1) := by decide +kernel
theorem dX6_findLeastPolynomial_151 : decode cX6_findLeastPolynomial 151 = .ok (.getfield 44, 3) := by decide +kernel
theorem dX6_findLeastPolynomial_154 : decode cX6_findLeastPolynomial 154 = .ok (.invokevirtual 83, 3) := by decide +kernel
theorem dX6_findLeastPolynomial_157 : decode cX6_findLeastPolynomial 157 = .ok (.return_, 1) := by decide +kernel
theorem dX6_reduceByRows_0 : decode cX6_reduceByRows 0 = .ok (.iconst 5, 1) := by decide +kernel
theorem dX6_reduceByRows_1 : decode cX6_reduceByRows 1 = .ok (.istore_n 1, 1) := by decide +kernel
theorem dX6_reduceByRows_2 : decode cX6_reduceByRows 2 = .ok (.iload_n 1, 1) := by decide +kernel
theorem dX6_reduceByRows_3 : decode cX6_reduceByRows 3 = .ok (.ifCond .lt 87, 3) := by decide +kernel
theorem dX6_reduceByRows_6 : decode cX6_reduceByRows 6 = .ok (.aload_n 0, 1) := by decide +kernel
theorem dX6_reduceByRows_7 : decode cX6_reduceByRows 7 = .ok (.getfield 15, 3) := by decide +kernel
theorem dX6_reduceByRows_10 : decode cX6_reduceByRows 10 = .ok (.aload_n 0, 1) := by decide +kernel
theorem dX6_reduceByRows_11 : decode cX6_reduceByRows 11 = .ok (.getfield 47, 3) := by decide +kernel
theorem dX6_reduceByRows_14 : decode cX6_reduceByRows 14 = .ok (.iload_n 1, 1) := by decide +kernel
theorem dX6_reduceByRows_15 : decode cX6_reduceByRows 15 = .ok (.aaload, 1) := by decide +kernel
theorem dX6_reduceByRows_16 : decode cX6_reduceByRows 16 = .ok (.iload_n 1, 1) := by decide +kernel
theorem dX6_reduceByRows_17 : decode cX6_reduceByRows 17 = .ok (.invokevirtual 112, 3) := by decide +kernel
theorem dX6_reduceByRows_20 : decode cX6_reduceByRows 20 = .ok (.invokevirtual 129, 3) := by decide +kernel
theorem dX6_reduceByRows_23 : decode cX6_reduceByRows 23 = .ok (.istore_n 2, 1) := by decide +kernel
theorem dX6_reduceByRows_24 : decode cX6_reduceByRows 24 = .ok (.aload_n 0, 1) := by decide +kernel
theorem dX6_reduceByRows_25 : decode cX6_reduceByRows 25 = .ok (.getfield 41, 3) := by decide +kernel
theorem dX6_reduceByRows_28 : decode cX6_reduceByRows 28 = .ok (.iload_n 1, 1) := by decide +kernel
theorem dX6_reduceByRows_29 : decode cX6_reduceByRows 29 = .ok (.invokevirtual 112, 3) := by decide +kernel
theorem dX6_reduceByRows_32 : decode cX6_reduceByRows 32 = .ok (.ineg, 1) := by decide +kernel
theorem dX6_reduceByRows_33 : decode cX6_reduceByRows 33 = .ok (.iload_n 2, 1) := by decide +kernel
theorem dX6_reduceByRows_34 : decode cX6_reduceByRows 34 = .ok (.imul, 1) := by decide +kernel
theorem dX6_reduceByRows_35 : decode cX6_reduceByRows 35 = .ok (.istore_n 3, 1) := by decide +kernel
theorem dX6_reduceByRows_36 : decode cX6_reduceByRows 36 = .ok (.iload_n 3, 1) := by decide +kernel
theorem dX6_reduceByRows_37 : decode cX6_reduceByRows 37 = .ok (.ifCond .eq 47, 3) := by decide +kernel
theorem dX6_reduceByRows_40 : decode cX6_reduceByRows 40 = .ok (.aload_n 0, 1) := by decide +kernel
theorem dX6_reduceByRows_41 : decode cX6_reduceByRows 41 = .ok (.getfield 41, 3) := by decide +kernel
theorem dX6_reduceByRows_44 : decode cX6_reduceByRows 44 = .ok (.iload_n 3, 1) := by decide +kernel
theorem dX6_reduceByRows_45 : decode cX6_reduceByRows 45 = .ok (.aload_n 0, 1) := by decide +kernel
theorem dX6_reduceByRows_46 : decode cX6_reduceByRows 46 = .ok (.getfield 47, 3) := by decide +kernel
theorem dX6_reduceByRows_49 : decode cX6_reduceByRows 49 = .ok (.iload_n 1, 1) := by decide +kernel
theorem dX6_reduceByRows_50 : decode cX6_reduceByRows 50 = .ok (.aaload, 1) := by decide +kernel
theorem dX6_reduceByRows_51 : decode cX6_reduceByRows 51 = .ok (.iconst 0, 1) := by decide +kernel
theorem dX6_reduceByRows_52 : decode cX6_reduceByRows 52 = .ok (.aload_n 0, 1) := by decide +kernel
theorem dX6_reduceByRows_53 : decode cX6_reduceByRows 53 = .ok (.getfield 9, 3) := by decide +kernel
theorem dX6_reduceByRows_56 : decode cX6_reduceByRows 56 = .ok (.getfield 68, 3) := by decide +kernel
theorem dX6_reduceByRows_59 : decode cX6_reduceByRows 59 = .ok (.invokevirtual 72, 3) := by decide +kernel
theorem dX6_reduceByRows_62 : decode cX6_reduceByRows 62 = .ok (.aload_n 0, 1) := by decide +kernel
theorem dX6_reduceByRows_63 : decode cX6_reduceByRows 63 = .ok (.getfield 44, 3) := by decide +kernel
theorem dX6_reduceByRows_66 : decode cX6_reduceByRows 66 = .ok (.iload_n 3, 1) := by decide +kernel
theorem dX6_reduceByRows_67 : decode cX6_reduceByRows 67 = .ok (.aload_n 0, 1) := by decide +kernel
theorem dX6_reduceByRows_68 : decode cX6_reduceByRows 68 = .ok (.getfield 51, 3) := by decide +kernel
theorem dX6_reduceByRows_71 : decode cX6_reduceByRows 71 = .ok (.iload_n 1, 1) := by decide +kernel
theorem dX6_reduceByRows_72 : decode cX6_reduceByRows 72 = .ok (.aaload, 1) := by decide +kernel
theorem dX6_reduceByRows_73 : decode cX6_reduceByRows 73 = .ok (.iconst 0, 1) := by decide +kernel
theorem dX6_reduceByRows_74 : decode cX6_reduceByRows 74 = .ok (.aload_n 0, 1) := by decide +kernel
theorem dX6_reduceByRows_75 : decode cX6_reduceByRows 75 = .ok (.getfield 9, 3) := by decide +kernel
theorem dX6_reduceByRows_78 : decode cX6_reduceByRows 78 = .ok (.getfield 68, 3) := by decide +kernel
theorem dX6_reduceByRows_81 : decode cX6_reduceByRows 81 = .ok (.invokevirtual 72, 3) := by decide +kernel
theorem dX6_reduceByRows_84 : decode cX6_reduceByRows 84 = .ok (.iinc 1 (-1), 3) := by decide +kernel
theorem dX6_reduceByRows_87 : decode cX6_reduceByRows 87 = .ok (.goto (-85), 3) := by decide +kernel
theorem dX6_reduceByRows_90 : decode cX6_reduceByRows 90 = .ok (.return_, 1) := by decide +kernel
theorem dX6_leastExponent_0 : decode cX6_leastExponent 0 = .ok (.iload_n 2, 1) := by decide +kernel
theorem dX6_leastExponent_1 : decode cX6_leastExponent 1 = .ok (.istore_n 3, 1) := by decide +kernel
theorem dX6_leastExponent_2 : decode cX6_leastExponent 2 = .ok (.iload_n 2, 1) := by decide +kernel
theorem dX6_leastExponent_3 : decode cX6_leastExponent 3 = .ok (.istore 4, 2) := by decide +kernel
theorem dX6_leastExponent_5 : decode cX6_leastExponent 5 = .ok (.iconst 2, 1) := by decide +kernel
theorem dX6_leastExponent_6 : decode cX6_leastExponent 6 = .ok (.istore 5, 2) := by decide +kernel
theorem dX6_leastExponent_8 : decode cX6_leastExponent 8 = .ok (.iload 5, 2) := by decide +kernel
theorem dX6_leastExponent_10 : decode cX6_leastExponent 10 = .ok (.iload_n 2, 1) := by decide +kernel
theorem dX6_leastExponent_11 : decode cX6_leastExponent 11 = .ok (.if_icmp .gt 93, 3) := by decide +kernel
theorem dX6_leastExponent_14 : decode cX6_leastExponent 14 = .ok (.iload 4, 2) := by decide +kernel
theorem dX6_leastExponent_16 : decode cX6_leastExponent 16 = .ok (.iconst 1, 1) := by decide +kernel
theorem dX6_leastExponent_17 : decode cX6_leastExponent 17 = .ok (.if_icmp .le 87, 3) := by decide +kernel
theorem dX6_leastExponent_20 : decode cX6_leastExponent 20 = .ok (.iload 5, 2) := by decide +kernel
theorem dX6_leastExponent_22 : decode cX6_leastExponent 22 = .ok (.iload 4, 2) := by decide +kernel
theorem dX6_leastExponent_24 : decode cX6_leastExponent 24 = .ok (.iload 5, 2) := by decide +kernel
theorem dX6_leastExponent_26 : decode cX6_leastExponent 26 = .ok (.idiv, 1) := by decide +kernel
theorem dX6_leastExponent_27 : decode cX6_leastExponent 27 = .ok (.if_icmp .le 8, 3) := by decide +kernel
theorem dX6_leastExponent_30 : decode cX6_leastExponent 30 = .ok (.iload 4, 2) := by decide +kernel
theorem dX6_leastExponent_32 : decode cX6_leastExponent 32 = .ok (.goto 5, 3) := by decide +kernel
theorem dX6_leastExponent_35 : decode cX6_leastExponent 35 = .ok (.iload 5, 2) := by decide +kernel
theorem dX6_leastExponent_37 : decode cX6_leastExponent 37 = .ok (.istore 6, 2) := by decide +kernel
theorem dX6_leastExponent_39 : decode cX6_leastExponent 39 = .ok (.iconst 0, 1) := by decide +kernel
theorem dX6_leastExponent_40 : decode cX6_leastExponent 40 = .ok (.istore 7, 2) := by decide +kernel
theorem dX6_leastExponent_42 : decode cX6_leastExponent 42 = .ok (.iload 7, 2) := by decide +kernel
theorem dX6_leastExponent_44 : decode cX6_leastExponent 44 = .ok (.bipush 31, 2) := by decide +kernel
theorem dX6_leastExponent_46 : decode cX6_leastExponent 46 = .ok (.if_icmp .ge 52, 3) := by decide +kernel
theorem dX6_leastExponent_49 : decode cX6_leastExponent 49 = .ok (.iload 4, 2) := by decide +kernel
theorem dX6_leastExponent_51 : decode cX6_leastExponent 51 = .ok (.iload 6, 2) := by decide +kernel
theorem dX6_leastExponent_53 : decode cX6_leastExponent 53 = .ok (.irem, 1) := by decide +kernel
theorem dX6_leastExponent_54 : decode cX6_leastExponent 54 = .ok (.ifCond .ne 44, 3) := by decide +kernel
theorem dX6_leastExponent_57 : decode cX6_leastExponent 57 = .ok (.iload 4, 2) := by decide +kernel
theorem dX6_leastExponent_59 : decode cX6_leastExponent 59 = .ok (.iload 6, 2) := by decide +kernel
theorem dX6_leastExponent_61 : decode cX6_leastExponent 61 = .ok (.idiv, 1) := by decide +kernel
theorem dX6_leastExponent_62 : decode cX6_leastExponent 62 = .ok (.istore 4, 2) := by decide +kernel
theorem dX6_leastExponent_64 : decode cX6_leastExponent 64 = .ok (.aload_n 0, 1) := by decide +kernel
theorem dX6_leastExponent_65 : decode cX6_leastExponent 65 = .ok (.aload_n 0, 1) := by decide +kernel
theorem dX6_leastExponent_66 : decode cX6_leastExponent 66 = .ok (.getfield 38, 3) := by decide +kernel
theorem dX6_leastExponent_69 : decode cX6_leastExponent 69 = .ok (.aload_n 1, 1) := by decide +kernel
theorem dX6_leastExponent_70 : decode cX6_leastExponent 70 = .ok (.iload_n 3, 1) := by decide +kernel
theorem dX6_leastExponent_71 : decode cX6_leastExponent 71 = .ok (.iload 6, 2) := by decide +kernel
theorem dX6_leastExponent_73 : decode cX6_leastExponent 73 = .ok (.idiv, 1) := by decide +kernel
theorem dX6_leastExponent_74 : decode cX6_leastExponent 74 = .ok (.invokevirtual 132, 3) := by decide +kernel
theorem dX6_leastExponent_77 : decode cX6_leastExponent 77 = .ok (.aload_n 0, 1) := by decide +kernel
theorem dX6_leastExponent_78 : decode cX6_leastExponent 78 = .ok (.getfield 38, 3) := by decide +kernel
theorem dX6_leastExponent_81 : decode cX6_leastExponent 81 = .ok (.invokevirtual 136, 3) := by decide +kernel
theorem dX6_leastExponent_84 : decode cX6_leastExponent 84 = .ok (.ifCond .eq 8, 3) := by decide +kernel
theorem dX6_leastExponent_87 : decode cX6_leastExponent 87 = .ok (.iload_n 3, 1) := by decide +kernel
theorem dX6_leastExponent_88 : decode cX6_leastExponent 88 = .ok (.iload 6, 2) := by decide +kernel
theorem dX6_leastExponent_90 : decode cX6_leastExponent 90 = .ok (.idiv, 1) := by decide +kernel
theorem dX6_leastExponent_91 : decode cX6_leastExponent 91 = .ok (.istore_n 3, 1) := by decide +kernel
theorem dX6_leastExponent_92 : decode cX6_leastExponent 92 = .ok (.iinc 7 1, 3) := by decide +kernel
theorem dX6_leastExponent_95 : decode cX6_leastExponent 95 = .ok (.goto (-53), 3) := by decide +kernel
theorem dX6_leastExponent_98 : decode cX6_leastExponent 98 = .ok (.iinc 5 1, 3) := by decide +kernel
theorem dX6_leastExponent_101 : decode cX6_leastExponent 101 = .ok (.goto (-93), 3) := by decide +kernel
theorem dX6_leastExponent_104 : decode cX6_leastExponent 104 = .ok (.iload_n 3, 1) := by decide +kernel
theorem dX6_leastExponent_105 : decode cX6_leastExponent 105 = .ok (.ireturn, 1) := by decide +kernel
theorem dX7_init_0 : decode cX7_init 0 = .ok (.aload_n 0, 1) := by decide +kernel
theorem dX7_init_1 : decode cX7_init 1 = .ok (.invokespecial 3, 3) := by decide +kernel
theorem dX7_init_4 : decode cX7_init 4 = .ok (.aload_n 0, 1) := by decide +kernel
theorem dX7_init_5 : decode cX7_init 5 = .ok (.new 9, 3) := by decide +kernel
theorem dX7_init_8 : decode cX7_init 8 = .ok (.dup, 1) := by decide +kernel
theorem dX7_init_9 : decode cX7_init 9 = .ok (.invokespecial 11, 3) := by decide +kernel
theorem dX7_init_12 : decode cX7_init 12 = .ok (.putfield 12, 3) := by decide +kernel
theorem dX7_init_15 : decode cX7_init 15 = .ok (.aload_n 0, 1) := by decide +kernel
theorem dX7_init_16 : decode cX7_init 16 = .ok (.bipush 6, 2) := by decide +kernel
theorem dX7_init_18 : decode cX7_init 18 = .ok (.anewarray 9, 3) := by decide +kernel
theorem dX7_init_21 : decode cX7_init 21 = .ok (.putfield 18, 3) := by decide +kernel
theorem dX7_init_24 : decode cX7_init 24 = .ok (.iconst 0, 1) := by decide +kernel
theorem dX7_init_25 : decode cX7_init 25 = .ok (.istore_n 1, 1) := by decide +kernel
theorem dX7_init_26 : decode cX7_init 26 = .ok (.iload_n 1, 1) := by decide +kernel
theorem dX7_init_27 : decode cX7_init 27 = .ok (.bipush 6, 2) := by decide +kernel
theorem dX7_init_29 : decode cX7_init 29 = .ok (.if_icmp .ge 22, 3) := by decide +kernel
theorem dX7_init_32 : decode cX7_init 32 = .ok (.aload_n 0, 1) := by decide +kernel
theorem dX7_init_33 : decode cX7_init 33 = .ok (.getfield 18, 3) := by decide +kernel
theorem dX7_init_36 : decode cX7_init 36 = .ok (.iload_n 1, 1) := by decide +kernel
theorem dX7_init_37 : decode cX7_init 37 = .ok (.new 9, 3) := by decide +kernel
theorem dX7_init_40 : decode cX7_init 40 = .ok (.dup, 1) := by decide +kernel
theorem dX7_init_41 : decode cX7_init 41 = .ok (.invokespecial 11, 3) := by decide +kernel
theorem dX7_init_44 : decode cX7_init 44 = .ok (.aastore, 1) := by decide +kernel
theorem dX7_init_45 : decode cX7_init 45 = .ok (.iinc 1 1, 3) := by decide +kernel
theorem dX7_init_48 : decode cX7_init 48 = .ok (.goto (-22), 3) := by decide +kernel
theorem dX7_init_51 : decode cX7_init 51 = .ok (.aload_n 0, 1) := by decide +kernel
theorem dX7_init_52 : decode cX7_init 52 = .ok (.bipush 6, 2) := by decide +kernel
theorem dX7_init_54 : decode cX7_init 54 = .ok (.anewarray 9, 3) := by decide +kernel
theorem dX7_init_57 : decode cX7_init 57 = .ok (.putfield 22, 3) := by decide +kernel
theorem dX7_init_60 : decode cX7_init 60 = .ok (.iconst 0, 1) := by decide +kernel
theorem dX7_init_61 : decode cX7_init 61 = .ok (.istore_n 1, 1) := by decide +kernel
theorem dX7_init_62 : decode cX7_init 62 = .ok (.iload_n 1, 1) := by decide +kernel
theorem dX7_init_63 : decode cX7_init 63 = .ok (.bipush 6, 2) := by decide +kernel
theorem dX7_init_65 : decode cX7_init 65 = .ok (.if_icmp .ge 22, 3) := by decide +kernel
theorem dX7_init_68 : decode cX7_init 68 = .ok (.aload_n 0, 1) := by decide +kernel
theorem dX7_init_69 : decode cX7_init 69 = .ok (.getfield 22, 3) := by decide +kernel
theorem dX7_init_72 : decode cX7_init 72 = .ok (.iload_n 1, 1) := by decide +kernel
theorem dX7_init_73 : decode cX7_init 73 = .ok (.new 9, 3) := by decide +kernel
theorem dX7_init_76 : decode cX7_init 76 = .ok (.dup, 1) := by decide +kernel
theorem dX7_init_77 : decode cX7_init 77 = .ok (.invokespecial 11, 3) := by decide +kernel
theorem dX7_init_80 : decode cX7_init 80 = .ok (.aastore, 1) := by decide +kernel
theorem dX7_init_81 : decode cX7_init 81 = .ok (.iinc 1 1, 3) := by decide +kernel
theorem dX7_init_84 : decode cX7_init 84 = .ok (.goto (-22), 3) := by decide +kernel
theorem dX7_init_87 : decode cX7_init 87 = .ok (.aload_n 0, 1) := by decide +kernel
theorem dX7_init_88 : decode cX7_init 88 = .ok (.iconst 5, 1) := by decide +kernel
theorem dX7_init_89 : decode cX7_init 89 = .ok (.invokevirtual 25, 3) := by decide +kernel
theorem dX7_init_92 : decode cX7_init 92 = .ok (.return_, 1) := by decide +kernel
theorem dX7_start_0 : decode cX7_start 0 = .ok (.aload_n 0, 1) := by decide +kernel
theorem dX7_start_1 : decode cX7_start 1 = .ok (.iload_n 1, 1) := by decide +kernel
theorem dX7_start_2 : decode cX7_start 2 = .ok (.putfield 29, 3) := by decide +kernel
theorem dX7_start_5 : decode cX7_start 5 = .ok (.aload_n 0, 1) := by decide +kernel
theorem dX7_start_6 : decode cX7_start 6 = .ok (.getfield 12, 3) := by decide +kernel
theorem dX7_start_9 : decode cX7_start 9 = .ok (.invokevirtual 33, 3) := by decide +kernel
theorem dX7_start_12 : decode cX7_start 12 = .ok (.iconst 0, 1) := by decide +kernel
theorem dX7_start_13 : decode cX7_start 13 = .ok (.istore_n 2, 1) := by decide +kernel
theorem dX7_start_14 : decode cX7_start 14 = .ok (.iload_n 2, 1) := by decide +kernel
theorem dX7_start_15 : decode cX7_start 15 = .ok (.bipush 6, 2) := by decide +kernel
theorem dX7_start_17 : decode cX7_start 17 = .ok (.if_icmp .ge 18, 3) := by decide +kernel
theorem dX7_start_20 : decode cX7_start 20 = .ok (.aload_n 0, 1) := by decide +kernel
theorem dX7_start_21 : decode cX7_start 21 = .ok (.getfield 18, 3) := by decide +kernel
theorem dX7_start_24 : decode cX7_start 24 = .ok (.iload_n 2, 1) := by decide +kernel
theorem dX7_start_25 : decode cX7_start 25 = .ok (.aaload, 1) := by decide +kernel
theorem dX7_start_26 : decode cX7_start 26 = .ok (.invokevirtual 36, 3) := by decide +kernel
theorem dX7_start_29 : decode cX7_start 29 = .ok (.iinc 2 1, 3) := by decide +kernel
theorem dX7_start_32 : decode cX7_start 32 = .ok (.goto (-18), 3) := by decide +kernel
theorem dX7_start_35 : decode cX7_start 35 = .ok (.aload_n 0, 1) := by decide +kernel
theorem dX7_start_36 : decode cX7_start 36 = .ok (.invokevirtual 39, 3) := by decide +kernel
theorem dX7_start_39 : decode cX7_start 39 = .ok (.return_, 1) := by decide +kernel
theorem dX7_takeModulus_0 : decode cX7_takeModulus 0 = .ok (.aload_n 0, 1) := by decide +kernel
theorem dX7_takeModulus_1 : decode cX7_takeModulus 1 = .ok (.getfield 12, 3) := by decide +kernel
theorem dX7_takeModulus_4 : decode cX7_takeModulus 4 = .ok (.aload_n 1, 1) := by decide +kernel
theorem dX7_takeModulus_5 : decode cX7_takeModulus 5 = .ok (.invokevirtual 42, 3) := by decide +kernel
theorem dX7_takeModulus_8 : decode cX7_takeModulus 8 = .ok (.aload_n 0, 1) := by decide +kernel
theorem dX7_takeModulus_9 : decode cX7_takeModulus 9 = .ok (.invokevirtual 39, 3) := by decide +kernel
theorem dX7_takeModulus_12 : decode cX7_takeModulus 12 = .ok (.return_, 1) := by decide +kernel
theorem dX7_copy_0 : decode cX7_copy 0 = .ok (.aload_n 0, 1) := by decide +kernel
theorem dX7_copy_1 : decode cX7_copy 1 = .ok (.aload_n 1, 1) := by decide +kernel
theorem dX7_copy_2 : decode cX7_copy 2 = .ok (.getfield 29, 3) := by decide +kernel
theorem dX7_copy_5 : decode cX7_copy 5 = .ok (.putfield 29, 3) := by decide +kernel
theorem dX7_copy_8 : decode cX7_copy 8 = .ok (.aload_n 0, 1) := by decide +kernel
theorem dX7_copy_9 : decode cX7_copy 9 = .ok (.getfield 12, 3) := by decide +kernel
theorem dX7_copy_12 : decode cX7_copy 12 = .ok (.aload_n 1, 1) := by decide +kernel
theorem dX7_copy_13 : decode cX7_copy 13 = .ok (.getfield 12, 3) := by decide +kernel
theorem dX7_copy_16 : decode cX7_copy 16 = .ok (.invokevirtual 42, 3) := by decide +kernel
theorem dX7_copy_19 : decode cX7_copy 19 = .ok (.iconst 0, 1) := by decide +kernel
theorem dX7_copy_20 : decode cX7_copy 20 = .ok (.istore_n 2, 1) := by decide +kernel
theorem dX7_copy_21 : decode cX7_copy 21 = .ok (.iload_n 2, 1) := by decide +kernel
theorem dX7_copy_22 : decode cX7_copy 22 = .ok (.bipush 6, 2) := by decide +kernel
theorem dX7_copy_24 : decode cX7_copy 24 = .ok (.if_icmp .ge 24, 3) := by decide +kernel
theorem dX7_copy_27 : decode cX7_copy 27 = .ok (.aload_n 0, 1) := by decide +kernel
theorem dX7_copy_28 : decode cX7_copy 28 = .ok (.getfield 18, 3) := by decide +kernel
theorem dX7_copy_31 : decode cX7_copy 31 = .ok (.iload_n 2, 1) := by decide +kernel
theorem dX7_copy_32 : decode cX7_copy 32 = .ok (.aaload, 1) := by decide +kernel
theorem dX7_copy_33 : decode cX7_copy 33 = .ok (.aload_n 1, 1) := by decide +kernel
theorem dX7_copy_34 : decode cX7_copy 34 = .ok (.getfield 18, 3) := by decide +kernel
theorem dX7_copy_37 : decode cX7_copy 37 = .ok (.iload_n 2, 1) := by decide +kernel
theorem dX7_copy_38 : decode cX7_copy 38 = .ok (.aaload, 1) := by decide +kernel
theorem dX7_copy_39 : decode cX7_copy 39 = .ok (.invokevirtual 42, 3) := by decide +kernel
theorem dX7_copy_42 : decode cX7_copy 42 = .ok (.iinc 2 1, 3) := by decide +kernel
theorem dX7_copy_45 : decode cX7_copy 45 = .ok (.goto (-24), 3) := by decide +kernel
theorem dX7_copy_48 : decode cX7_copy 48 = .ok (.iconst 0, 1) := by decide +kernel
theorem dX7_copy_49 : decode cX7_copy 49 = .ok (.istore_n 2, 1) := by decide +kernel
theorem dX7_copy_50 : decode cX7_copy 50 = .ok (.iload_n 2, 1) := by decide +kernel
theorem dX7_copy_51 : decode cX7_copy 51 = .ok (.bipush 6, 2) := by decide +kernel
theorem dX7_copy_53 : decode cX7_copy 53 = .ok (.if_icmp .ge 24, 3) := by decide +kernel
theorem dX7_copy_56 : decode cX7_copy 56 = .ok (.aload_n 0, 1) := by decide +kernel
theorem dX7_copy_57 : decode cX7_copy 57 = .ok (.getfield 22, 3) := by decide +kernel
theorem dX7_copy_60 : decode cX7_copy 60 = .ok (.iload_n 2, 1) := by decide +kernel
theorem dX7_copy_61 : decode cX7_copy 61 = .ok (.aaload, 1) := by decide +kernel
theorem dX7_copy_62 : decode cX7_copy 62 = .ok (.aload_n 1, 1) := by decide +kernel
theorem dX7_copy_63 : decode cX7_copy 63 = .ok (.getfield 22, 3) := by decide +kernel
theorem dX7_copy_66 : decode cX7_copy 66 = .ok (.iload_n 2, 1) := by decide +kernel
theorem dX7_copy_67 : decode cX7_copy 67 = .ok (.aaload, 1) := by decide +kernel
theorem dX7_copy_68 : decode cX7_copy 68 = .ok (.invokevirtual 42, 3) := by decide +kernel
theorem dX7_copy_71 : decode cX7_copy 71 = .ok (.iinc 2 1, 3) := by decide +kernel
theorem dX7_copy_74 : decode cX7_copy 74 = .ok (.goto (-24), 3) := by decide +kernel
theorem dX7_copy_77 : decode cX7_copy 77 = .ok (.aload_n 0, 1) := by decide +kernel
theorem dX7_copy_78 : decode cX7_copy 78 = .ok (.aload_n 1, 1) := by decide +kernel
theorem dX7_copy_79 : decode cX7_copy 79 = .ok (.getfield 46, 3) := by decide +kernel
theorem dX7_copy_82 : decode cX7_copy 82 = .ok (.putfield 46, 3) := by decide +kernel
theorem dX7_copy_85 : decode cX7_copy 85 = .ok (.return_, 1) := by decide +kernel
theorem dX7_reduced_0 : decode cX7_reduced 0 = .ok (.aload_n 0, 1) := by decide +kernel
theorem dX7_reduced_1 : decode cX7_reduced 1 = .ok (.getfield 29, 3) := by decide +kernel
theorem dX7_reduced_4 : decode cX7_reduced 4 = .ok (.iconst 2, 1) := by decide +kernel
theorem dX7_reduced_5 : decode cX7_reduced 5 = .ok (.if_icmp .ge 5, 3) := by decide +kernel
theorem dX7_reduced_8 : decode cX7_reduced 8 = .ok (.iconst 0, 1) := by decide +kernel
theorem dX7_reduced_9 : decode cX7_reduced 9 = .ok (.ireturn, 1) := by decide +kernel
theorem dX7_reduced_10 : decode cX7_reduced 10 = .ok (.iload_n 1, 1) := by decide +kernel
theorem dX7_reduced_11 : decode cX7_reduced 11 = .ok (.aload_n 0, 1) := by decide +kernel
theorem dX7_reduced_12 : decode cX7_reduced 12 = .ok (.getfield 29, 3) := by decide +kernel
theorem dX7_reduced_15 : decode cX7_reduced 15 = .ok (.irem, 1) := by decide +kernel
theorem dX7_reduced_16 : decode cX7_reduced 16 = .ok (.istore_n 2, 1) := by decide +kernel
theorem dX7_reduced_17 : decode cX7_reduced 17 = .ok (.iload_n 2, 1) := by decide +kernel
theorem dX7_reduced_18 : decode cX7_reduced 18 = .ok (.ifCond .ge 12, 3) := by decide +kernel
theorem dX7_reduced_21 : decode cX7_reduced 21 = .ok (.iload_n 2, 1) := by decide +kernel
theorem dX7_reduced_22 : decode cX7_reduced 22 = .ok (.aload_n 0, 1) := by decide +kernel
theorem dX7_reduced_23 : decode cX7_reduced 23 = .ok (.getfield 29, 3) := by decide +kernel
theorem dX7_reduced_26 : decode cX7_reduced 26 = .ok (.iadd, 1) := by decide +kernel
theorem dX7_reduced_27 : decode cX7_reduced 27 = .ok (.goto 4, 3) := by decide +kernel
theorem dX7_reduced_30 : decode cX7_reduced 30 = .ok (.iload_n 2, 1) := by decide +kernel
theorem dX7_reduced_31 : decode cX7_reduced 31 = .ok (.ireturn, 1) := by decide +kernel
theorem dX7_addBranch_0 : decode cX7_addBranch 0 = .ok (.aload_n 0, 1) := by decide +kernel
theorem dX7_addBranch_1 : decode cX7_addBranch 1 = .ok (.getfield 46, 3) := by decide +kernel
theorem dX7_addBranch_4 : decode cX7_addBranch 4 = .ok (.bipush 6, 2) := by decide +kernel
theorem dX7_addBranch_6 : decode cX7_addBranch 6 = .ok (.if_icmp .ge 26, 3) := by decide +kernel
theorem dX7_addBranch_9 : decode cX7_addBranch 9 = .ok (.aload_n 0, 1) := by decide +kernel
theorem dX7_addBranch_10 : decode cX7_addBranch 10 = .ok (.getfield 22, 3) := by decide +kernel
theorem dX7_addBranch_13 : decode cX7_addBranch 13 = .ok (.aload_n 0, 1) := by decide +kernel
theorem dX7_addBranch_14 : decode cX7_addBranch 14 = .ok (.getfield 46, 3) := by decide +kernel
theorem dX7_addBranch_17 : decode cX7_addBranch 17 = .ok (.aaload, 1) := by decide +kernel
theorem dX7_addBranch_18 : decode cX7_addBranch 18 = .ok (.aload_n 1, 1) := by decide +kernel
theorem dX7_addBranch_19 : decode cX7_addBranch 19 = .ok (.invokevirtual 42, 3) := by decide +kernel
theorem dX7_addBranch_22 : decode cX7_addBranch 22 = .ok (.aload_n 0, 1) := by decide +kernel
theorem dX7_addBranch_23 : decode cX7_addBranch 23 = .ok (.dup, 1) := by decide +kernel
theorem dX7_addBranch_24 : decode cX7_addBranch 24 = .ok (.getfield 46, 3) := by decide +kernel
theorem dX7_addBranch_27 : decode cX7_addBranch 27 = .ok (.iconst 1, 1) := by decide +kernel
theorem dX7_addBranch_28 : decode cX7_addBranch 28 = .ok (.iadd, 1) := by decide +kernel
theorem dX7_addBranch_29 : decode cX7_addBranch 29 = .ok (.putfield 46, 3) := by decide +kernel
theorem dX7_addBranch_32 : decode cX7_addBranch 32 = .ok (.return_, 1) := by decide +kernel
theorem dX7_sortBranches_0 : decode cX7_sortBranches 0 = .ok (.aload_n 0, 1) := by decide +kernel
theorem dX7_sortBranches_1 : decode cX7_sortBranches 1 = .ok (.getfield 46, 3) := by decide +kernel
theorem dX7_sortBranches_4 : decode cX7_sortBranches 4 = .ok (.iconst 1, 1) := by decide +kernel
theorem dX7_sortBranches_5 : decode cX7_sortBranches 5 = .ok (.isub, 1) := by decide +kernel
theorem dX7_sortBranches_6 : decode cX7_sortBranches 6 = .ok (.istore_n 1, 1) := by decide +kernel
theorem dX7_sortBranches_7 : decode cX7_sortBranches 7 = .ok (.iload_n 1, 1) := by decide +kernel
theorem dX7_sortBranches_8 : decode cX7_sortBranches 8 = .ok (.ifCond .le 65, 3) := by decide +kernel
theorem dX7_sortBranches_11 : decode cX7_sortBranches 11 = .ok (.iconst 0, 1) := by decide +kernel
theorem dX7_sortBranches_12 : decode cX7_sortBranches 12 = .ok (.istore_n 2, 1) := by decide +kernel
theorem dX7_sortBranches_13 : decode cX7_sortBranches 13 = .ok (.iload_n 2, 1) := by decide +kernel
theorem dX7_sortBranches_14 : decode cX7_sortBranches 14 = .ok (.iload_n 1, 1) := by decide +kernel
theorem dX7_sortBranches_15 : decode cX7_sortBranches 15 = .ok (.if_icmp .ge 52, 3) := by decide +kernel
theorem dX7_sortBranches_18 : decode cX7_sortBranches 18 = .ok (.aload_n 0, 1) := by decide +kernel
theorem dX7_sortBranches_19 : decode cX7_sortBranches 19 = .ok (.getfield 22, 3) := by decide +kernel
theorem dX7_sortBranches_22 : decode cX7_sortBranches 22 = .ok (.iload_n 2, 1) := by decide +kernel
theorem dX7_sortBranches_23 : decode cX7_sortBranches 23 = .ok (.aaload, 1) := by decide +kernel
theorem dX7_sortBranches_24 : decode cX7_sortBranches 24 = .ok (.astore_n 3, 1) := by decide +kernel
theorem dX7_sortBranches_25 : decode cX7_sortBranches 25 = .ok (.aload_n 0, 1) := by decide +kernel
theorem dX7_sortBranches_26 : decode cX7_sortBranches 26 = .ok (.getfield 22, 3) := by decide +kernel
theorem dX7_sortBranches_29 : decode cX7_sortBranches 29 = .ok (.iload_n 2, 1) := by decide +kernel
theorem dX7_sortBranches_30 : decode cX7_sortBranches 30 = .ok (.iconst 1, 1) := by decide +kernel
theorem dX7_sortBranches_31 : decode cX7_sortBranches 31 = .ok (.iadd, 1) := by decide +kernel
theorem dX7_sortBranches_32 : decode cX7_sortBranches 32 = .ok (.aaload, 1) := by decide +kernel
theorem dX7_sortBranches_33 : decode cX7_sortBranches 33 = .ok (.astore 4, 2) := by decide +kernel
theorem dX7_sortBranches_35 : decode cX7_sortBranches 35 = .ok (.aload 4, 2) := by decide +kernel
theorem dX7_sortBranches_37 : decode cX7_sortBranches 37 = .ok (.aload_n 3, 1) := by decide +kernel
theorem dX7_sortBranches_38 : decode cX7_sortBranches 38 = .ok (.invokevirtual 49, 3) := by decide +kernel
theorem dX7_sortBranches_41 : decode cX7_sortBranches 41 = .ok (.ifCond .eq 20, 3) := by decide +kernel
theorem dX7_sortBranches_44 : decode cX7_sortBranches 44 = .ok (.aload_n 0, 1) := by decide +kernel
theorem dX7_sortBranches_45 : decode cX7_sortBranches 45 = .ok (.getfield 22, 3) := by decide +kernel
theorem dX7_sortBranches_48 : decode cX7_sortBranches 48 = .ok (.iload_n 2, 1) := by decide +kernel
theorem dX7_sortBranches_49 : decode cX7_sortBranches 49 = .ok (.aload 4, 2) := by decide +kernel
theorem dX7_sortBranches_51 : decode cX7_sortBranches 51 = .ok (.aastore, 1) := by decide +kernel
theorem dX7_sortBranches_52 : decode cX7_sortBranches 52 = .ok (.aload_n 0, 1) := by decide +kernel
theorem dX7_sortBranches_53 : decode cX7_sortBranches 53 = .ok (.getfield 22, 3) := by decide +kernel
theorem dX7_sortBranches_56 : decode cX7_sortBranches 56 = .ok (.iload_n 2, 1) := by decide +kernel
theorem dX7_sortBranches_57 : decode cX7_sortBranches 57 = .ok (.iconst 1, 1) := by decide +kernel
theorem dX7_sortBranches_58 : decode cX7_sortBranches 58 = .ok (.iadd, 1) := by decide +kernel
theorem dX7_sortBranches_59 : decode cX7_sortBranches 59 = .ok (.aload_n 3, 1) := by decide +kernel
theorem dX7_sortBranches_60 : decode cX7_sortBranches 60 = .ok (.aastore, 1) := by decide +kernel
theorem dX7_sortBranches_61 : decode cX7_sortBranches 61 = .ok (.iinc 2 1, 3) := by decide +kernel
theorem dX7_sortBranches_64 : decode cX7_sortBranches 64 = .ok (.goto (-51), 3) := by decide +kernel
theorem dX7_sortBranches_67 : decode cX7_sortBranches 67 = .ok (.iinc 1 (-1), 3) := by decide +kernel
theorem dX7_sortBranches_70 : decode cX7_sortBranches 70 = .ok (.goto (-63), 3) := by decide +kernel
theorem dX7_sortBranches_73 : decode cX7_sortBranches 73 = .ok (.return_, 1) := by decide +kernel
theorem dX7_greatestBranchDegree_0 : decode cX7_greatestBranchDegree 0 = .ok (.iconst 0, 1) := by decide +kernel
theorem dX7_greatestBranchDegree_1 : decode cX7_greatestBranchDegree 1 = .ok (.istore_n 1, 1) := by decide +kernel
theorem dX7_greatestBranchDegree_2 : decode cX7_greatestBranchDegree 2 = .ok (.iconst 0, 1) := by decide +kernel
theorem dX7_greatestBranchDegree_3 : decode cX7_greatestBranchDegree 3 = .ok (.istore_n 2, 1) := by decide +kernel
theorem dX7_greatestBranchDegree_4 : decode cX7_greatestBranchDegree 4 = .ok (.iload_n 2, 1) := by decide +kernel
theorem dX7_greatestBranchDegree_5 : decode cX7_greatestBranchDegree 5 = .ok (.aload_n 0, 1) := by decide +kernel
theorem dX7_greatestBranchDegree_6 : decode cX7_greatestBranchDegree 6 = .ok (.getfield 46, 3) := by decide +kernel
theorem dX7_greatestBranchDegree_9 : decode cX7_greatestBranchDegree 9 = .ok (.if_icmp .ge 23, 3) := by decide +kernel
theorem dX7_greatestBranchDegree_12 : decode cX7_greatestBranchDegree 12 = .ok (.iload_n 1, 1) := by decide +kernel
theorem dX7_greatestBranchDegree_13 : decode cX7_greatestBranchDegree 13 = .ok (.aload_n 0, 1) := by decide +kernel
theorem dX7_greatestBranchDegree_14 : decode cX7_greatestBranchDegree 14 = .ok (.getfield 22, 3) := by decide +kernel
theorem dX7_greatestBranchDegree_17 : decode cX7_greatestBranchDegree 17 = .ok (.iload_n 2, 1) := by decide +kernel
theorem dX7_greatestBranchDegree_18 : decode cX7_greatestBranchDegree 18 = .ok (.aaload, 1) := by decide +kernel
theorem dX7_greatestBranchDegree_19 : decode cX7_greatestBranchDegree 19 = .ok (.getfield 53, 3) := by decide +kernel
theorem dX7_greatestBranchDegree_22 : decode cX7_greatestBranchDegree 22 = .ok (.invokestatic 56, 3) := by decide +kernel
theorem dX7_greatestBranchDegree_25 : decode cX7_greatestBranchDegree 25 = .ok (.istore_n 1, 1) := by decide +kernel
theorem dX7_greatestBranchDegree_26 : decode cX7_greatestBranchDegree 26 = .ok (.iinc 2 1, 3) := by decide +kernel
theorem dX7_greatestBranchDegree_29 : decode cX7_greatestBranchDegree 29 = .ok (.goto (-25), 3) := by decide +kernel
theorem dX7_greatestBranchDegree_32 : decode cX7_greatestBranchDegree 32 = .ok (.iload_n 1, 1) := by decide +kernel
theorem dX7_greatestBranchDegree_33 : decode cX7_greatestBranchDegree 33 = .ok (.ireturn, 1) := by decide +kernel
theorem dX7_emptyRegisters_0 : decode cX7_emptyRegisters 0 = .ok (.iconst 0, 1) := by decide +kernel
theorem dX7_emptyRegisters_1 : decode cX7_emptyRegisters 1 = .ok (.istore_n 1, 1) := by decide +kernel
theorem dX7_emptyRegisters_2 : decode cX7_emptyRegisters 2 = .ok (.iconst 0, 1) := by decide +kernel
theorem dX7_emptyRegisters_3 : decode cX7_emptyRegisters 3 = .ok (.istore_n 2, 1) := by decide +kernel
theorem dX7_emptyRegisters_4 : decode cX7_emptyRegisters 4 = .ok (.iload_n 2, 1) := by decide +kernel
theorem dX7_emptyRegisters_5 : decode cX7_emptyRegisters 5 = .ok (.bipush 6, 2) := by decide +kernel
theorem dX7_emptyRegisters_7 : decode cX7_emptyRegisters 7 = .ok (.if_icmp .ge 24, 3) := by decide +kernel
theorem dX7_emptyRegisters_10 : decode cX7_emptyRegisters 10 = .ok (.aload_n 0, 1) := by decide +kernel
theorem dX7_emptyRegisters_11 : decode cX7_emptyRegisters 11 = .ok (.getfield 18, 3) := by decide +kernel
theorem dX7_emptyRegisters_14 : decode cX7_emptyRegisters 14 = .ok (.iload_n 2, 1) := by decide +kernel
theorem dX7_emptyRegisters_15 : decode cX7_emptyRegisters 15 = .ok (.aaload, 1) := by decide +kernel
theorem dX7_emptyRegisters_16 : decode cX7_emptyRegisters 16 = .ok (.getfield 53, 3) := by decide +kernel
theorem dX7_emptyRegisters_19 : decode cX7_emptyRegisters 19 = .ok (.ifCond .ge 6, 3) := by decide +kernel
theorem dX7_emptyRegisters_22 : decode cX7_emptyRegisters 22 = .ok (.iinc 1 1, 3) := by decide +kernel
theorem dX7_emptyRegisters_25 : decode cX7_emptyRegisters 25 = .ok (.iinc 2 1, 3) := by decide +kernel
theorem dX7_emptyRegisters_28 : decode cX7_emptyRegisters 28 = .ok (.goto (-24), 3) := by decide +kernel
theorem dX7_emptyRegisters_31 : decode cX7_emptyRegisters 31 = .ok (.iload_n 1, 1) := by decide +kernel
theorem dX7_emptyRegisters_32 : decode cX7_emptyRegisters 32 = .ok (.ireturn, 1) := by decide +kernel
theorem dX7_becomeOneBranch_0 : decode cX7_becomeOneBranch 0 = .ok (.aload_n 0, 1) := by decide +kernel
theorem dX7_becomeOneBranch_1 : decode cX7_becomeOneBranch 1 = .ok (.iconst 0, 1) := by decide +kernel
theorem dX7_becomeOneBranch_2 : decode cX7_becomeOneBranch 2 = .ok (.putfield 46, 3) := by decide +kernel
theorem dX7_becomeOneBranch_5 : decode cX7_becomeOneBranch 5 = .ok (.aload_n 0, 1) := by decide +kernel
theorem dX7_becomeOneBranch_6 : decode cX7_becomeOneBranch 6 = .ok (.aload_n 0, 1) := by decide +kernel
theorem dX7_becomeOneBranch_7 : decode cX7_becomeOneBranch 7 = .ok (.getfield 12, 3) := by decide +kernel
theorem dX7_becomeOneBranch_10 : decode cX7_becomeOneBranch 10 = .ok (.invokevirtual 62, 3) := by decide +kernel
theorem dX7_becomeOneBranch_13 : decode cX7_becomeOneBranch 13 = .ok (.return_, 1) := by decide +kernel
theorem dX8_init_0 : decode cX8_init 0 = .ok (.aload_n 0, 1) := by decide +kernel
theorem dX8_init_1 : decode cX8_init 1 = .ok (.invokespecial 3, 3) := by decide +kernel
theorem dX8_init_4 : decode cX8_init 4 = .ok (.aload_n 0, 1) := by decide +kernel
theorem dX8_init_5 : decode cX8_init 5 = .ok (.bipush 60, 2) := by decide +kernel
theorem dX8_init_7 : decode cX8_init 7 = .ok (.newarray .int, 2) := by decide +kernel
theorem dX8_init_9 : decode cX8_init 9 = .ok (.putfield 11, 3) := by decide +kernel
theorem dX8_init_12 : decode cX8_init 12 = .ok (.aload_n 0, 1) := by decide +kernel
theorem dX8_init_13 : decode cX8_init 13 = .ok (.iconst 0, 1) := by decide +kernel
theorem dX8_init_14 : decode cX8_init 14 = .ok (.putfield 15, 3) := by decide +kernel
theorem dX8_init_17 : decode cX8_init 17 = .ok (.aload_n 0, 1) := by decide +kernel
theorem dX8_init_18 : decode cX8_init 18 = .ok (.bipush 7, 2) := by decide +kernel
theorem dX8_init_20 : decode cX8_init 20 = .ok (.newarray .int, 2) := by decide +kernel
theorem dX8_init_22 : decode cX8_init 22 = .ok (.putfield 19, 3) := by decide +kernel
theorem dX8_init_25 : decode cX8_init 25 = .ok (.aload_n 0, 1) := by decide +kernel
theorem dX8_init_26 : decode cX8_init 26 = .ok (.iconst 0, 1) := by decide +kernel
theorem dX8_init_27 : decode cX8_init 27 = .ok (.putfield 22, 3) := by decide +kernel
theorem dX8_init_30 : decode cX8_init 30 = .ok (.return_, 1) := by decide +kernel
theorem dX8_add_0 : decode cX8_add 0 = .ok (.aload_n 0, 1) := by decide +kernel
theorem dX8_add_1 : decode cX8_add 1 = .ok (.getfield 15, 3) := by decide +kernel
theorem dX8_add_4 : decode cX8_add 4 = .ok (.bipush 60, 2) := by decide +kernel
theorem dX8_add_6 : decode cX8_add 6 = .ok (.if_icmp .lt 5, 3) := by decide +kernel
theorem dX8_add_9 : decode cX8_add 9 = .ok (.iconst 0, 1) := by decide +kernel
theorem dX8_add_10 : decode cX8_add 10 = .ok (.ireturn, 1) := by decide +kernel
theorem dX8_add_11 : decode cX8_add 11 = .ok (.aload_n 0, 1) := by decide +kernel
theorem dX8_add_12 : decode cX8_add 12 = .ok (.getfield 11, 3) := by decide +kernel
theorem dX8_add_15 : decode cX8_add 15 = .ok (.aload_n 0, 1) := by decide +kernel
theorem dX8_add_16 : decode cX8_add 16 = .ok (.getfield 15, 3) := by decide +kernel
theorem dX8_add_19 : decode cX8_add 19 = .ok (.iload_n 1, 1) := by decide +kernel
theorem dX8_add_20 : decode cX8_add 20 = .ok (.iastore, 1) := by decide +kernel
theorem dX8_add_21 : decode cX8_add 21 = .ok (.aload_n 0, 1) := by decide +kernel
theorem dX8_add_22 : decode cX8_add 22 = .ok (.dup, 1) := by decide +kernel
theorem dX8_add_23 : decode cX8_add 23 = .ok (.getfield 15, 3) := by decide +kernel
theorem dX8_add_26 : decode cX8_add 26 = .ok (.iconst 1, 1) := by decide +kernel
theorem dX8_add_27 : decode cX8_add 27 = .ok (.iadd, 1) := by decide +kernel
theorem dX8_add_28 : decode cX8_add 28 = .ok (.putfield 15, 3) := by decide +kernel
theorem dX8_add_31 : decode cX8_add 31 = .ok (.iconst 1, 1) := by decide +kernel
theorem dX8_add_32 : decode cX8_add 32 = .ok (.ireturn, 1) := by decide +kernel
theorem dX8_at_0 : decode cX8_at 0 = .ok (.iload_n 1, 1) := by decide +kernel
theorem dX8_at_1 : decode cX8_at 1 = .ok (.ifCond .lt 20, 3) := by decide +kernel
theorem dX8_at_4 : decode cX8_at 4 = .ok (.iload_n 1, 1) := by decide +kernel
theorem dX8_at_5 : decode cX8_at 5 = .ok (.aload_n 0, 1) := by decide +kernel
theorem dX8_at_6 : decode cX8_at 6 = .ok (.getfield 15, 3) := by decide +kernel
theorem dX8_at_9 : decode cX8_at 9 = .ok (.if_icmp .ge 12, 3) := by decide +kernel
theorem dX8_at_12 : decode cX8_at 12 = .ok (.aload_n 0, 1) := by decide +kernel
theorem dX8_at_13 : decode cX8_at 13 = .ok (.getfield 11, 3) := by decide +kernel
theorem dX8_at_16 : decode cX8_at 16 = .ok (.iload_n 1, 1) := by decide +kernel
theorem dX8_at_17 : decode cX8_at 17 = .ok (.iaload, 1) := by decide +kernel
theorem dX8_at_18 : decode cX8_at 18 = .ok (.goto 4, 3) := by decide +kernel
theorem dX8_at_21 : decode cX8_at 21 = .ok (.iconst 0, 1) := by decide +kernel
theorem dX8_at_22 : decode cX8_at 22 = .ok (.ireturn, 1) := by decide +kernel
theorem dX8_isDigit_0 : decode cX8_isDigit 0 = .ok (.iload_n 0, 1) := by decide +kernel
theorem dX8_isDigit_1 : decode cX8_isDigit 1 = .ok (.bipush 48, 2) := by decide +kernel
theorem dX8_isDigit_3 : decode cX8_isDigit 3 = .ok (.if_icmp .lt 13, 3) := by decide +kernel
theorem dX8_isDigit_6 : decode cX8_isDigit 6 = .ok (.iload_n 0, 1) := by decide +kernel
theorem dX8_isDigit_7 : decode cX8_isDigit 7 = .ok (.bipush 57, 2) := by decide +kernel
theorem dX8_isDigit_9 : decode cX8_isDigit 9 = .ok (.if_icmp .gt 7, 3) := by decide +kernel
theorem dX8_isDigit_12 : decode cX8_isDigit 12 = .ok (.iconst 1, 1) := by decide +kernel
theorem dX8_isDigit_13 : decode cX8_isDigit 13 = .ok (.goto 4, 3) := by decide +kernel
theorem dX8_isDigit_16 : decode cX8_isDigit 16 = .ok (.iconst 0, 1) := by decide +kernel
theorem dX8_isDigit_17 : decode cX8_isDigit 17 = .ok (.ireturn, 1) := by decide +kernel
theorem dX8_isRegisterLetter_0 : decode cX8_isRegisterLetter 0 = .ok (.iload_n 0, 1) := by decide +kernel
theorem dX8_isRegisterLetter_1 : decode cX8_isRegisterLetter 1 = .ok (.bipush 97, 2) := by decide +kernel
theorem dX8_isRegisterLetter_3 : decode cX8_isRegisterLetter 3 = .ok (.if_icmp .lt 13, 3) := by decide +kernel
theorem dX8_isRegisterLetter_6 : decode cX8_isRegisterLetter 6 = .ok (.iload_n 0, 1) := by decide +kernel
theorem dX8_isRegisterLetter_7 : decode cX8_isRegisterLetter 7 = .ok (.bipush 102, 2) := by decide +kernel
theorem dX8_isRegisterLetter_9 : decode cX8_isRegisterLetter 9 = .ok (.if_icmp .gt 7, 3) := by decide +kernel
theorem dX8_isRegisterLetter_12 : decode cX8_isRegisterLetter 12 = .ok (.iconst 1, 1) := by decide +kernel
theorem dX8_isRegisterLetter_13 : decode cX8_isRegisterLetter 13 = .ok (.goto 4, 3) := by decide +kernel
theorem dX8_isRegisterLetter_16 : decode cX8_isRegisterLetter 16 = .ok (.iconst 0, 1) := by decide +kernel
theorem dX8_isRegisterLetter_17 : decode cX8_isRegisterLetter 17 = .ok (.ireturn, 1) := by decide +kernel
theorem dX8_polynomialFault_0 : decode cX8_polynomialFault 0 = .ok (.aload_n 0, 1) := by decide +kernel
theorem dX8_polynomialFault_1 : decode cX8_polynomialFault 1 = .ok (.iconst 0, 1) := by decide +kernel
theorem dX8_polynomialFault_2 : decode cX8_polynomialFault 2 = .ok (.putfield 22, 3) := by decide +kernel
theorem dX8_polynomialFault_5 : decode cX8_polynomialFault 5 = .ok (.iconst (-1), 1) := by decide +kernel
theorem dX8_polynomialFault_6 : decode cX8_polynomialFault 6 = .ok (.istore_n 1, 1) := by decide +kernel
theorem dX8_polynomialFault_7 : decode cX8_polynomialFault 7 = .ok (.iconst 0, 1) := by decide +kernel
theorem dX8_polynomialFault_8 : decode cX8_polynomialFault 8 = .ok (.istore_n 2, 1) := by decide +kernel
theorem dX8_polynomialFault_9 : decode cX8_polynomialFault 9 = .ok (.iload_n 2, 1) := by decide +kernel
theorem dX8_polynomialFault_10 : decode cX8_polynomialFault 10 = .ok (.aload_n 0, 1) := by decide +kernel
theorem dX8_polynomialFault_11 : decode cX8_polynomialFault 11 = .ok (.getfield 15, 3) := by decide +kernel
theorem dX8_polynomialFault_14 : decode cX8_polynomialFault 14 = .ok (.if_icmp .ge 88, 3) := by decide +kernel
theorem dX8_polynomialFault_17 : decode cX8_polynomialFault 17 = .ok (.aload_n 0, 1) := by decide +kernel
theorem dX8_polynomialFault_18 : decode cX8_polynomialFault 18 = .ok (.getfield 11, 3) := by decide +kernel
theorem dX8_polynomialFault_21 : decode cX8_polynomialFault 21 = .ok (.iload_n 2, 1) := by decide +kernel
theorem dX8_polynomialFault_22 : decode cX8_polynomialFault 22 = .ok (.iaload, 1) := by decide +kernel
theorem dX8_polynomialFault_23 : decode cX8_polynomialFault 23 = .ok (.istore_n 3, 1) := by decide +kernel
theorem dX8_polynomialFault_24 : decode cX8_polynomialFault 24 = .ok (.iload_n 3, 1) := by decide +kernel
theorem dX8_polynomialFault_25 : decode cX8_polynomialFault 25 = .ok (.invokestatic 25, 3) := by decide +kernel
theorem dX8_polynomialFault_28 : decode cX8_polynomialFault 28 = .ok (.ifCond .eq 37, 3) := by decide +kernel
theorem dX8_polynomialFault_31 : decode cX8_polynomialFault 31 = .ok (.iload_n 1, 1) := by decide +kernel
theorem dX8_polynomialFault_32 : decode cX8_polynomialFault 32 = .ok (.iconst 0, 1) := by decide +kernel
theorem dX8_polynomialFault_33 : decode cX8_polynomialFault 33 = .ok (.invokestatic 29, 3) := by decide +kernel
theorem dX8_polynomialFault_36 : decode cX8_polynomialFault 36 = .ok (.bipush 10, 2) := by decide +kernel
theorem dX8_polynomialFault_38 : decode cX8_polynomialFault 38 = .ok (.imul, 1) := by decide +kernel
theorem dX8_polynomialFault_39 : decode cX8_polynomialFault 39 = .ok (.iload_n 3, 1) := by decide +kernel
theorem dX8_polynomialFault_40 : decode cX8_polynomialFault 40 = .ok (.iadd, 1) := by decide +kernel
theorem dX8_polynomialFault_41 : decode cX8_polynomialFault 41 = .ok (.bipush 48, 2) := by decide +kernel
theorem dX8_polynomialFault_43 : decode cX8_polynomialFault 43 = .ok (.isub, 1) := by decide +kernel
theorem dX8_polynomialFault_44 : decode cX8_polynomialFault 44 = .ok (.istore 4, 2) := by decide +kernel
theorem dX8_polynomialFault_46 : decode cX8_polynomialFault 46 = .ok (.iload_n 1, 1) := by decide +kernel
theorem dX8_polynomialFault_47 : decode cX8_polynomialFault 47 = .ok (.ifCond .eq 10, 3) := by decide +kernel
theorem dX8_polynomialFault_50 : decode cX8_polynomialFault 50 = .ok (.iload 4, 2) := by decide +kernel
theorem dX8_polynomialFault_52 : decode cX8_polynomialFault 52 = .ok (.bipush 12, 2) := by decide +kernel
theorem dX8_polynomialFault_54 : decode cX8_polynomialFault 54 = .ok (.if_icmp .le 5, 3) := by decide +kernel
theorem dX8_polynomialFault_57 : decode cX8_polynomialFault 57 = .ok (.iload_n 2, 1) := by decide +kernel
theorem dX8_polynomialFault_58 : decode cX8_polynomialFault 58 = .ok (.ireturn, 1) := by decide +kernel
theorem dX8_polynomialFault_59 : decode cX8_polynomialFault 59 = .ok (.iload 4, 2) := by decide +kernel
theorem dX8_polynomialFault_61 : decode cX8_polynomialFault 61 = .ok (.istore_n 1, 1) := by decide +kernel
theorem dX8_polynomialFault_62 : decode cX8_polynomialFault 62 = .ok (.goto 34, 3) := by decide +kernel
theorem dX8_polynomialFault_65 : decode cX8_polynomialFault 65 = .ok (.iload_n 3, 1) := by decide +kernel
theorem dX8_polynomialFault_66 : decode cX8_polynomialFault 66 = .ok (.bipush 44, 2) := by decide +kernel
theorem dX8_polynomialFault_68 : decode cX8_polynomialFault 68 = .ok (.if_icmp .ne 26, 3) := by decide +kernel
theorem dX8_polynomialFault_71 : decode cX8_polynomialFault 71 = .ok (.iload_n 1, 1) := by decide +kernel
theorem dX8_polynomialFault_72 : decode cX8_polynomialFault 72 = .ok (.ifCond .lt 22, 3) := by decide +kernel
theorem dX8_polynomialFault_75 : decode cX8_polynomialFault 75 = .ok (.aload_n 0, 1) := by decide +kernel
theorem dX8_polynomialFault_76 : decode cX8_polynomialFault 76 = .ok (.getfield 22, 3) := by decide +kernel
theorem dX8_polynomialFault_79 : decode cX8_polynomialFault 79 = .ok (.bipush 6, 2) := by decide +kernel
theorem dX8_polynomialFault_81 : decode cX8_polynomialFault 81 = .ok (.if_icmp .ge 13, 3) := by decide +kernel
theorem dX8_polynomialFault_84 : decode cX8_polynomialFault 84 = .ok (.aload_n 0, 1) := by decide +kernel
theorem dX8_polynomialFault_85 : decode cX8_polynomialFault 85 = .ok (.iload_n 1, 1) := by decide +kernel
theorem dX8_polynomialFault_86 : decode cX8_polynomialFault 86 = .ok (.invokevirtual 35, 3) := by decide +kernel
theorem dX8_polynomialFault_89 : decode cX8_polynomialFault 89 = .ok (.iconst (-1), 1) := by decide +kernel
theorem dX8_polynomialFault_90 : decode cX8_polynomialFault 90 = .ok (.istore_n 1, 1) := by decide +kernel
theorem dX8_polynomialFault_91 : decode cX8_polynomialFault 91 = .ok (.goto 5, 3) := by decide +kernel
theorem dX8_polynomialFault_94 : decode cX8_polynomialFault 94 = .ok (.iload_n 2, 1) := by decide +kernel
theorem dX8_polynomialFault_95 : decode cX8_polynomialFault 95 = .ok (.ireturn, 1) := by decide +kernel
theorem dX8_polynomialFault_96 : decode cX8_polynomialFault 96 = .ok (.iinc 2 1, 3) := by decide +kernel
theorem dX8_polynomialFault_99 : decode cX8_polynomialFault 99 = .ok (.goto (-90), 3) := by decide +kernel
theorem dX8_polynomialFault_102 : decode cX8_polynomialFault 102 = .ok (.iload_n 1, 1) := by decide +kernel
theorem dX8_polynomialFault_103 : decode cX8_polynomialFault 103 = .ok (.ifCond .ge 8, 3) := by decide +kernel
theorem dX8_polynomialFault_106 : decode cX8_polynomialFault 106 = .ok (.aload_n 0, 1) := by decide +kernel
theorem dX8_polynomialFault_107 : decode cX8_polynomialFault 107 = .ok (.getfield 15, 3) := by decide +kernel
theorem dX8_polynomialFault_110 : decode cX8_polynomialFault 110 = .ok (.ireturn, 1) := by decide +kernel
theorem dX8_polynomialFault_111 : decode cX8_polynomialFault 111 = .ok (.aload_n 0, 1) := by decide +kernel
theorem dX8_polynomialFault_112 : decode cX8_polynomialFault 112 = .ok (.iload_n 1, 1) := by decide +kernel
theorem dX8_polynomialFault_113 : decode cX8_polynomialFault 113 = .ok (.invokevirtual 35, 3) := by decide +kernel
theorem dX8_polynomialFault_116 : decode cX8_polynomialFault 116 = .ok (.iconst (-1), 1) := by decide +kernel
theorem dX8_polynomialFault_117 : decode cX8_polynomialFault 117 = .ok (.ireturn, 1) := by decide +kernel
theorem dX8_copyPolynomial_0 : decode cX8_copyPolynomial 0 = .ok (.aload_n 1, 1) := by decide +kernel
theorem dX8_copyPolynomial_1 : decode cX8_copyPolynomial 1 = .ok (.invokevirtual 39, 3) := by decide +kernel
theorem dX8_copyPolynomial_4 : decode cX8_copyPolynomial 4 = .ok (.iconst 0, 1) := by decide +kernel
theorem dX8_copyPolynomial_5 : decode cX8_copyPolynomial 5 = .ok (.istore_n 2, 1) := by decide +kernel
theorem dX8_copyPolynomial_6 : decode cX8_copyPolynomial 6 = .ok (.iload_n 2, 1) := by decide +kernel
theorem dX8_copyPolynomial_7 : decode cX8_copyPolynomial 7 = .ok (.aload_n 0, 1) := by decide +kernel
theorem dX8_copyPolynomial_8 : decode cX8_copyPolynomial 8 = .ok (.getfield 22, 3) := by decide +kernel
theorem dX8_copyPolynomial_11 : decode cX8_copyPolynomial 11 = .ok (.if_icmp .ge 20, 3) := by decide +kernel
theorem dX8_copyPolynomial_14 : decode cX8_copyPolynomial 14 = .ok (.aload_n 1, 1) := by decide +kernel
theorem dX8_copyPolynomial_15 : decode cX8_copyPolynomial 15 = .ok (.iload_n 2, 1) := by decide +kernel
theorem dX8_copyPolynomial_16 : decode cX8_copyPolynomial 16 = .ok (.aload_n 0, 1) := by decide +kernel
theorem dX8_copyPolynomial_17 : decode cX8_copyPolynomial 17 = .ok (.getfield 19, 3) := by decide +kernel
theorem dX8_copyPolynomial_20 : decode cX8_copyPolynomial 20 = .ok (.iload_n 2, 1) := by decide +kernel
theorem dX8_copyPolynomial_21 : decode cX8_copyPolynomial 21 = .ok (.iaload, 1) := by decide +kernel
theorem dX8_copyPolynomial_22 : decode cX8_copyPolynomial 22 = .ok (.invokevirtual 44, 3) := by decide +kernel
theorem dX8_copyPolynomial_25 : decode cX8_copyPolynomial 25 = .ok (.iinc 2 1, 3) := by decide +kernel
theorem dX8_copyPolynomial_28 : decode cX8_copyPolynomial 28 = .ok (.goto (-22), 3) := by decide +kernel
theorem dX8_copyPolynomial_31 : decode cX8_copyPolynomial 31 = .ok (.return_, 1) := by decide +kernel
theorem dX8_assignmentFault_0 : decode cX8_assignmentFault 0 = .ok (.aload_n 0, 1) := by decide +kernel
theorem dX8_assignmentFault_1 : decode cX8_assignmentFault 1 = .ok (.iconst 0, 1) := by decide +kernel
theorem dX8_assignmentFault_2 : decode cX8_assignmentFault 2 = .ok (.invokevirtual 48, 3) := by decide +kernel
theorem dX8_assignmentFault_5 : decode cX8_assignmentFault 5 = .ok (.invokestatic 52, 3) := by decide +kernel
theorem dX8_assignmentFault_8 : decode cX8_assignmentFault 8 = .ok (.ifCond .ne 5, 3) := by decide +kernel
theorem dX8_assignmentFault_11 : decode cX8_assignmentFault 11 = .ok (.iconst 0, 1) := by decide +kernel
theorem dX8_assignmentFault_12 : decode cX8_assignmentFault 12 = .ok (.ireturn, 1) := by decide +kernel
theorem dX8_assignmentFault_13 : decode cX8_assignmentFault 13 = .ok (.aload_n 0, 1) := by decide +kernel
theorem dX8_assignmentFault_14 : decode cX8_assignmentFault 14 = .ok (.iconst 1, 1) := by decide +kernel
theorem dX8_assignmentFault_15 : decode cX8_assignmentFault 15 = .ok (.invokevirtual 48, 3) := by decide +kernel
theorem dX8_assignmentFault_18 : decode cX8_assignmentFault 18 = .ok (.bipush 61, 2) := by decide +kernel
theorem dX8_assignmentFault_20 : decode cX8_assignmentFault 20 = .ok (.if_icmp .eq 5, 3) := by decide +kernel
theorem dX8_assignmentFault_23 : decode cX8_assignmentFault 23 = .ok (.iconst 1, 1) := by decide +kernel
theorem dX8_assignmentFault_24 : decode cX8_assignmentFault 24 = .ok (.ireturn, 1) := by decide +kernel
theorem dX8_assignmentFault_25 : decode cX8_assignmentFault 25 = .ok (.iconst 0, 1) := by decide +kernel
theorem dX8_assignmentFault_26 : decode cX8_assignmentFault 26 = .ok (.istore_n 1, 1) := by decide +kernel
theorem dX8_assignmentFault_27 : decode cX8_assignmentFault 27 = .ok (.iconst 0, 1) := by decide +kernel
theorem dX8_assignmentFault_28 : decode cX8_assignmentFault 28 = .ok (.istore_n 2, 1) := by decide +kernel
theorem dX8_assignmentFault_29 : decode cX8_assignmentFault 29 = .ok (.iconst 2, 1) := by decide +kernel
theorem dX8_assignmentFault_30 : decode cX8_assignmentFault 30 = .ok (.istore_n 3, 1) := by decide +kernel
theorem dX8_assignmentFault_31 : decode cX8_assignmentFault 31 = .ok (.iload_n 3, 1) := by decide +kernel
theorem dX8_assignmentFault_32 : decode cX8_assignmentFault 32 = .ok (.aload_n 0, 1) := by decide +kernel
theorem dX8_assignmentFault_33 : decode cX8_assignmentFault 33 = .ok (.getfield 15, 3) := by decide +kernel
theorem dX8_assignmentFault_36 : decode cX8_assignmentFault 36 = .ok (.if_icmp .ge 65, 3) := by decide +kernel
theorem dX8_assignmentFault_39 : decode cX8_assignmentFault 39 = .ok (.aload_n 0, 1) := by decide +kernel
theorem dX8_assignmentFault_40 : decode cX8_assignmentFault 40 = .ok (.getfield 11, 3) := by decide +kernel
theorem dX8_assignmentFault_43 : decode cX8_assignmentFault 43 = .ok (.iload_n 3, 1) := by decide +kernel
theorem dX8_assignmentFault_44 : decode cX8_assignmentFault 44 = .ok (.iaload, 1) := by decide +kernel
theorem dX8_assignmentFault_45 : decode cX8_assignmentFault 45 = .ok (.istore 4, 2) := by decide +kernel
theorem dX8_assignmentFault_47 : decode cX8_assignmentFault 47 = .ok (.iload 4, 2) := by decide +kernel
theorem dX8_assignmentFault_49 : decode cX8_assignmentFault 49 = .ok (.iload_n 2, 1) := by decide +kernel
theorem dX8_assignmentFault_50 : decode cX8_assignmentFault 50 = .ok (.invokestatic 55, 3) := by decide +kernel
theorem dX8_assignmentFault_53 : decode cX8_assignmentFault 53 = .ok (.istore_n 2, 1) := by decide +kernel
theorem dX8_assignmentFault_54 : decode cX8_assignmentFault 54 = .ok (.iload_n 1, 1) := by decide +kernel
theorem dX8_assignmentFault_55 : decode cX8_assignmentFault 55 = .ok (.iload 4, 2) := by decide +kernel
theorem dX8_assignmentFault_57 : decode cX8_assignmentFault 57 = .ok (.bipush 40, 2) := by decide +kernel
theorem dX8_assignmentFault_59 : decode cX8_assignmentFault 59 = .ok (.if_icmp .ne 7, 3) := by decide +kernel
theorem dX8_assignmentFault_62 : decode cX8_assignmentFault 62 = .ok (.iconst 1, 1) := by decide +kernel
theorem dX8_assignmentFault_63 : decode cX8_assignmentFault 63 = .ok (.goto 15, 3) := by decide +kernel
theorem dX8_assignmentFault_66 : decode cX8_assignmentFault 66 = .ok (.iload 4, 2) := by decide +kernel
theorem dX8_assignmentFault_68 : decode cX8_assignmentFault 68 = .ok (.bipush 41, 2) := by decide +kernel
theorem dX8_assignmentFault_70 : decode cX8_assignmentFault 70 = .ok (.if_icmp .ne 7, 3) := by decide +kernel
theorem dX8_assignmentFault_73 : decode cX8_assignmentFault 73 = .ok (.iconst (-1), 1) := by decide +kernel
theorem dX8_assignmentFault_74 : decode cX8_assignmentFault 74 = .ok (.goto 4, 3) := by decide +kernel
theorem dX8_assignmentFault_77 : decode cX8_assignmentFault 77 = .ok (.iconst 0, 1) := by decide +kernel
theorem dX8_assignmentFault_78 : decode cX8_assignmentFault 78 = .ok (.iadd, 1) := by decide +kernel
theorem dX8_assignmentFault_79 : decode cX8_assignmentFault 79 = .ok (.istore_n 1, 1) := by decide +kernel
theorem dX8_assignmentFault_80 : decode cX8_assignmentFault 80 = .ok (.iload_n 2, 1) := by decide +kernel
theorem dX8_assignmentFault_81 : decode cX8_assignmentFault 81 = .ok (.ifCond .lt 12, 3) := by decide +kernel
theorem dX8_assignmentFault_84 : decode cX8_assignmentFault 84 = .ok (.iload_n 1, 1) := by decide +kernel
theorem dX8_assignmentFault_85 : decode cX8_assignmentFault 85 = .ok (.ifCond .lt 8, 3) := by decide +kernel
theorem dX8_assignmentFault_88 : decode cX8_assignmentFault 88 = .ok (.iload_n 1, 1) := by decide +kernel
theorem dX8_assignmentFault_89 : decode cX8_assignmentFault 89 = .ok (.iconst 5, 1) := by decide +kernel
theorem dX8_assignmentFault_90 : decode cX8_assignmentFault 90 = .ok (.if_icmp .le 5, 3) := by decide +kernel
theorem dX8_assignmentFault_93 : decode cX8_assignmentFault 93 = .ok (.iload_n 3, 1) := by decide +kernel
theorem dX8_assignmentFault_94 : decode cX8_assignmentFault 94 = .ok (.ireturn, 1) := by decide +kernel
theorem dX8_assignmentFault_95 : decode cX8_assignmentFault 95 = .ok (.iinc 3 1, 3) := by decide +kernel
theorem dX8_assignmentFault_98 : decode cX8_assignmentFault 98 = .ok (.goto (-67), 3) := by decide +kernel
theorem dX8_assignmentFault_101 : decode cX8_assignmentFault 101 = .ok (.iload_n 1, 1) := by decide +kernel
theorem dX8_assignmentFault_102 : decode cX8_assignmentFault 102 = .ok (.ifCond .ne 17, 3) := by decide +kernel
theorem dX8_assignmentFault_105 : decode cX8_assignmentFault 105 = .ok (.iload_n 2, 1) := by decide +kernel
theorem dX8_assignmentFault_106 : decode cX8_assignmentFault 106 = .ok (.iconst 1, 1) := by decide +kernel
theorem dX8_assignmentFault_107 : decode cX8_assignmentFault 107 = .ok (.if_icmp .eq 8, 3) := by decide +kernel
theorem dX8_assignmentFault_110 : decode cX8_assignmentFault 110 = .ok (.iload_n 2, 1) := by decide +kernel
theorem dX8_assignmentFault_111 : decode cX8_assignmentFault 111 = .ok (.iconst 3, 1) := by decide +kernel
theorem dX8_assignmentFault_112 : decode cX8_assignmentFault 112 = .ok (.if_icmp .ne 7, 3) := by decide +kernel
theorem dX8_assignmentFault_115 : decode cX8_assignmentFault 115 = .ok (.iconst 1, 1) := by decide +kernel
theorem dX8_assignmentFault_116 : decode cX8_assignmentFault 116 = .ok (.goto 4, 3) := by decide +kernel
theorem dX8_assignmentFault_119 : decode cX8_assignmentFault 119 = .ok (.iconst 0, 1) := by decide +kernel
theorem dX8_assignmentFault_120 : decode cX8_assignmentFault 120 = .ok (.istore_n 3, 1) := by decide +kernel
theorem dX8_assignmentFault_121 : decode cX8_assignmentFault 121 = .ok (.iload_n 3, 1) := by decide +kernel
theorem dX8_assignmentFault_122 : decode cX8_assignmentFault 122 = .ok (.ifCond .eq 7, 3) := by decide +kernel
theorem dX8_assignmentFault_125 : decode cX8_assignmentFault 125 = .ok (.iconst (-1), 1) := by decide +kernel
theorem dX8_assignmentFault_126 : decode cX8_assignmentFault 126 = .ok (.goto 7, 3) := by decide +kernel
theorem dX8_assignmentFault_129 : decode cX8_assignmentFault 129 = .ok (.aload_n 0, 1) := by decide +kernel
theorem dX8_assignmentFault_130 : decode cX8_assignmentFault 130 = .ok (.getfield 15, 3) := by decide +kernel
theorem dX8_assignmentFault_133 : decode cX8_assignmentFault 133 = .ok (.ireturn, 1) := by decide +kernel
theorem dX8_expectedBehind_0 : decode cX8_expectedBehind 0 = .ok (.iload_n 1, 1) := by decide +kernel
theorem dX8_expectedBehind_1 : decode cX8_expectedBehind 1 = .ok (.ifCond .ne 49, 3) := by decide +kernel
theorem dX8_expectedBehind_4 : decode cX8_expectedBehind 4 = .ok (.iload_n 0, 1) := by decide +kernel
theorem dX8_expectedBehind_5 : decode cX8_expectedBehind 5 = .ok (.invokestatic 52, 3) := by decide +kernel
theorem dX8_expectedBehind_8 : decode cX8_expectedBehind 8 = .ok (.ifCond .ne 16, 3) := by decide +kernel
theorem dX8_expectedBehind_11 : decode cX8_expectedBehind 11 = .ok (.iload_n 0, 1) := by decide +kernel
theorem dX8_expectedBehind_12 : decode cX8_expectedBehind 12 = .ok (.invokestatic 25, 3) := by decide +kernel
theorem dX8_expectedBehind_15 : decode cX8_expectedBehind 15 = .ok (.ifCond .ne 9, 3) := by decide +kernel
theorem dX8_expectedBehind_18 : decode cX8_expectedBehind 18 = .ok (.iload_n 0, 1) := by decide +kernel
theorem dX8_expectedBehind_19 : decode cX8_expectedBehind 19 = .ok (.bipush 120, 2) := by decide +kernel
theorem dX8_expectedBehind_21 : decode cX8_expectedBehind 21 = .ok (.if_icmp .ne 7, 3) := by decide +kernel
theorem dX8_expectedBehind_24 : decode cX8_expectedBehind 24 = .ok (.iconst 1, 1) := by decide +kernel
theorem dX8_expectedBehind_25 : decode cX8_expectedBehind 25 = .ok (.goto 4, 3) := by decide +kernel
theorem dX8_expectedBehind_28 : decode cX8_expectedBehind 28 = .ok (.iconst 0, 1) := by decide +kernel
theorem dX8_expectedBehind_29 : decode cX8_expectedBehind 29 = .ok (.istore_n 2, 1) := by decide +kernel
theorem dX8_expectedBehind_30 : decode cX8_expectedBehind 30 = .ok (.iload_n 2, 1) := by decide +kernel
theorem dX8_expectedBehind_31 : decode cX8_expectedBehind 31 = .ok (.ifCond .eq 7, 3) := by decide +kernel
theorem dX8_expectedBehind_34 : decode cX8_expectedBehind 34 = .ok (.iconst 1, 1) := by decide +kernel
theorem dX8_expectedBehind_35 : decode cX8_expectedBehind 35 = .ok (.goto 14, 3) := by decide +kernel
theorem dX8_expectedBehind_38 : decode cX8_expectedBehind 38 = .ok (.iload_n 0, 1) := by decide +kernel
theorem dX8_expectedBehind_39 : decode cX8_expectedBehind 39 = .ok (.bipush 40, 2) := by decide +kernel
theorem dX8_expectedBehind_41 : decode cX8_expectedBehind 41 = .ok (.if_icmp .ne 7, 3) := by decide +kernel
theorem dX8_expectedBehind_44 : decode cX8_expectedBehind 44 = .ok (.iconst 0, 1) := by decide +kernel
theorem dX8_expectedBehind_45 : decode cX8_expectedBehind 45 = .ok (.goto 4, 3) := by decide +kernel
theorem dX8_expectedBehind_48 : decode cX8_expectedBehind 48 = .ok (.iconst (-1), 1) := by decide +kernel
theorem dX8_expectedBehind_49 : decode cX8_expectedBehind 49 = .ok (.ireturn, 1) := by decide +kernel
theorem dX8_expectedBehind_50 : decode cX8_expectedBehind 50 = .ok (.iload_n 1, 1) := by decide +kernel
theorem dX8_expectedBehind_51 : decode cX8_expectedBehind 51 = .ok (.iconst 2, 1) := by decide +kernel
theorem dX8_expectedBehind_52 : decode cX8_expectedBehind 52 = .ok (.if_icmp .ne 16, 3) := by decide +kernel
theorem dX8_expectedBehind_55 : decode cX8_expectedBehind 55 = .ok (.iload_n 0, 1) := by decide +kernel
theorem dX8_expectedBehind_56 : decode cX8_expectedBehind 56 = .ok (.invokestatic 25, 3) := by decide +kernel
theorem dX8_expectedBehind_59 : decode cX8_expectedBehind 59 = .ok (.ifCond .eq 7, 3) := by decide +kernel
theorem dX8_expectedBehind_62 : decode cX8_expectedBehind 62 = .ok (.iconst 3, 1) := by decide +kernel
theorem dX8_expectedBehind_63 : decode cX8_expectedBehind 63 = .ok (.goto 4, 3) := by decide +kernel
theorem dX8_expectedBehind_66 : decode cX8_expectedBehind 66 = .ok (.iconst (-1), 1) := by decide +kernel
theorem dX8_expectedBehind_67 : decode cX8_expectedBehind 67 = .ok (.ireturn, 1) := by decide +kernel
theorem dX8_expectedBehind_68 : decode cX8_expectedBehind 68 = .ok (.iload_n 0, 1) := by decide +kernel
theorem dX8_expectedBehind_69 : decode cX8_expectedBehind 69 = .ok (.lookupswitch 74 #[(41, 61), (42, 59), (43, 59), (45, 59), (47, 59), (94, 63)], 59) := by decide +kernel
theorem dX8_expectedBehind_128 : decode cX8_expectedBehind 128 = .ok (.iconst 0, 1) := by decide +kernel
theorem dX8_expectedBehind_129 : decode cX8_expectedBehind 129 = .ok (.ireturn, 1) := by decide +kernel
theorem dX8_expectedBehind_130 : decode cX8_expectedBehind 130 = .ok (.iconst 1, 1) := by decide +kernel
theorem dX8_expectedBehind_131 : decode cX8_expectedBehind 131 = .ok (.ireturn, 1) := by decide +kernel
theorem dX8_expectedBehind_132 : decode cX8_expectedBehind 132 = .ok (.iload_n 1, 1) := by decide +kernel
theorem dX8_expectedBehind_133 : decode cX8_expectedBehind 133 = .ok (.iconst 1, 1) := by decide +kernel
theorem dX8_expectedBehind_134 : decode cX8_expectedBehind 134 = .ok (.if_icmp .ne 7, 3) := by decide +kernel
theorem dX8_expectedBehind_137 : decode cX8_expectedBehind 137 = .ok (.iconst 2, 1) := by decide +kernel
theorem dX8_expectedBehind_138 : decode cX8_expectedBehind 138 = .ok (.goto 4, 3) := by decide +kernel
theorem dX8_expectedBehind_141 : decode cX8_expectedBehind 141 = .ok (.iconst (-1), 1) := by decide +kernel
theorem dX8_expectedBehind_142 : decode cX8_expectedBehind 142 = .ok (.ireturn, 1) := by decide +kernel
theorem dX8_expectedBehind_143 : decode cX8_expectedBehind 143 = .ok (.iconst (-1), 1) := by decide +kernel
theorem dX8_expectedBehind_144 : decode cX8_expectedBehind 144 = .ok (.ireturn, 1) := by decide +kernel
theorem dX8_tell_0 : decode cX8_tell 0 = .ok (.aload_n 0, 1) := by decide +kernel
theorem dX8_tell_1 : decode cX8_tell 1 = .ok (.getfield 22, 3) := by decide +kernel
theorem dX8_tell_4 : decode cX8_tell 4 = .ok (.bipush 7, 2) := by decide +kernel
theorem dX8_tell_6 : decode cX8_tell 6 = .ok (.if_icmp .ge 23, 3) := by decide +kernel
theorem dX8_tell_9 : decode cX8_tell 9 = .ok (.aload_n 0, 1) := by decide +kernel
theorem dX8_tell_10 : decode cX8_tell 10 = .ok (.getfield 19, 3) := by decide +kernel
theorem dX8_tell_13 : decode cX8_tell 13 = .ok (.aload_n 0, 1) := by decide +kernel
theorem dX8_tell_14 : decode cX8_tell 14 = .ok (.getfield 22, 3) := by decide +kernel
theorem dX8_tell_17 : decode cX8_tell 17 = .ok (.iload_n 1, 1) := by decide +kernel
theorem dX8_tell_18 : decode cX8_tell 18 = .ok (.iastore, 1) := by decide +kernel
theorem dX8_tell_19 : decode cX8_tell 19 = .ok (.aload_n 0, 1) := by decide +kernel
theorem dX8_tell_20 : decode cX8_tell 20 = .ok (.dup, 1) := by decide +kernel
theorem dX8_tell_21 : decode cX8_tell 21 = .ok (.getfield 22, 3) := by decide +kernel
theorem dX8_tell_24 : decode cX8_tell 24 = .ok (.iconst 1, 1) := by decide +kernel
theorem dX8_tell_25 : decode cX8_tell 25 = .ok (.iadd, 1) := by decide +kernel
theorem dX8_tell_26 : decode cX8_tell 26 = .ok (.putfield 22, 3) := by decide +kernel
theorem dX8_tell_29 : decode cX8_tell 29 = .ok (.return_, 1) := by decide +kernel
theorem dX9_init_0 : decode cX9_init 0 = .ok (.aload_n 0, 1) := by decide +kernel
theorem dX9_init_1 : decode cX9_init 1 = .ok (.invokespecial 1, 3) := by decide +kernel
theorem dX9_init_4 : decode cX9_init 4 = .ok (.new 7, 3) := by decide +kernel
theorem dX9_init_7 : decode cX9_init 7 = .ok (.dup, 1) := by decide +kernel
theorem dX9_init_8 : decode cX9_init 8 = .ok (.invokespecial 9, 3) := by decide +kernel
theorem dX9_init_11 : decode cX9_init 11 = .ok (.astore_n 1, 1) := by decide +kernel
theorem dX9_init_12 : decode cX9_init 12 = .ok (.new 10, 3) := by decide +kernel
theorem dX9_init_15 : decode cX9_init 15 = .ok (.dup, 1) := by decide +kernel
theorem dX9_init_16 : decode cX9_init 16 = .ok (.invokespecial 12, 3) := by decide +kernel
theorem dX9_init_19 : decode cX9_init 19 = .ok (.astore_n 2, 1) := by decide +kernel
theorem dX9_init_20 : decode cX9_init 20 = .ok (.new 13, 3) := by decide +kernel
theorem dX9_init_23 : decode cX9_init 23 = .ok (.dup, 1) := by decide +kernel
theorem dX9_init_24 : decode cX9_init 24 = .ok (.aload_n 1, 1) := by decide +kernel
theorem dX9_init_25 : decode cX9_init 25 = .ok (.invokespecial 15, 3) := by decide +kernel
theorem dX9_init_28 : decode cX9_init 28 = .ok (.astore_n 3, 1) := by decide +kernel
theorem dX9_init_29 : decode cX9_init 29 = .ok (.new 18, 3) := by decide +kernel
theorem dX9_init_32 : decode cX9_init 32 = .ok (.dup, 1) := by decide +kernel
theorem dX9_init_33 : decode cX9_init 33 = .ok (.aload_n 1, 1) := by decide +kernel
theorem dX9_init_34 : decode cX9_init 34 = .ok (.aload_n 3, 1) := by decide +kernel
theorem dX9_init_35 : decode cX9_init 35 = .ok (.invokespecial 20, 3) := by decide +kernel
theorem dX9_init_38 : decode cX9_init 38 = .ok (.astore 4, 2) := by decide +kernel
theorem dX9_init_40 : decode cX9_init 40 = .ok (.new 23, 3) := by decide +kernel
theorem dX9_init_43 : decode cX9_init 43 = .ok (.dup, 1) := by decide +kernel
theorem dX9_init_44 : decode cX9_init 44 = .ok (.aload_n 1, 1) := by decide +kernel
theorem dX9_init_45 : decode cX9_init 45 = .ok (.aload_n 3, 1) := by decide +kernel
theorem dX9_init_46 : decode cX9_init 46 = .ok (.invokespecial 25, 3) := by decide +kernel
theorem dX9_init_49 : decode cX9_init 49 = .ok (.astore 5, 2) := by decide +kernel
theorem dX9_init_51 : decode cX9_init 51 = .ok (.aload_n 0, 1) := by decide +kernel
theorem dX9_init_52 : decode cX9_init 52 = .ok (.new 26, 3) := by decide +kernel
theorem dX9_init_55 : decode cX9_init 55 = .ok (.dup, 1) := by decide +kernel
theorem dX9_init_56 : decode cX9_init 56 = .ok (.aload_n 1, 1) := by decide +kernel
theorem dX9_init_57 : decode cX9_init 57 = .ok (.aload_n 3, 1) := by decide +kernel
theorem dX9_init_58 : decode cX9_init 58 = .ok (.aload 4, 2) := by decide +kernel
theorem dX9_init_60 : decode cX9_init 60 = .ok (.invokespecial 28, 3) := by decide +kernel
theorem dX9_init_63 : decode cX9_init 63 = .ok (.putfield 31, 3) := by decide +kernel
theorem dX9_init_66 : decode cX9_init 66 = .ok (.aload_n 0, 1) := by decide +kernel
theorem dX9_init_67 : decode cX9_init 67 = .ok (.new 37, 3) := by decide +kernel
theorem dX9_init_70 : decode cX9_init 70 = .ok (.dup, 1) := by decide +kernel
theorem dX9_init_71 : decode cX9_init 71 = .ok (.aload_n 1, 1) := by decide +kernel
theorem dX9_init_72 : decode cX9_init 72 = .ok (.aload_n 2, 1) := by decide +kernel
theorem dX9_init_73 : decode cX9_init 73 = .ok (.aload 4, 2) := by decide +kernel
theorem dX9_init_75 : decode cX9_init 75 = .ok (.aload 5, 2) := by decide +kernel
theorem dX9_init_77 : decode cX9_init 77 = .ok (.invokespecial 39, 3) := by decide +kernel
theorem dX9_init_80 : decode cX9_init 80 = .ok (.putfield 42, 3) := by decide +kernel
theorem dX9_init_83 : decode cX9_init 83 = .ok (.aload_n 0, 1) := by decide +kernel
theorem dX9_init_84 : decode cX9_init 84 = .ok (.aload_n 1, 1) := by decide +kernel
theorem dX9_init_85 : decode cX9_init 85 = .ok (.putfield 46, 3) := by decide +kernel
theorem dX9_init_88 : decode cX9_init 88 = .ok (.aload_n 0, 1) := by decide +kernel
theorem dX9_init_89 : decode cX9_init 89 = .ok (.aload_n 2, 1) := by decide +kernel
theorem dX9_init_90 : decode cX9_init 90 = .ok (.putfield 50, 3) := by decide +kernel
theorem dX9_init_93 : decode cX9_init 93 = .ok (.aload_n 0, 1) := by decide +kernel
theorem dX9_init_94 : decode cX9_init 94 = .ok (.aload_n 3, 1) := by decide +kernel
theorem dX9_init_95 : decode cX9_init 95 = .ok (.putfield 54, 3) := by decide +kernel
theorem dX9_init_98 : decode cX9_init 98 = .ok (.aload_n 0, 1) := by decide +kernel
theorem dX9_init_99 : decode cX9_init 99 = .ok (.aload 4, 2) := by decide +kernel
theorem dX9_init_101 : decode cX9_init 101 = .ok (.putfield 58, 3) := by decide +kernel
theorem dX9_init_104 : decode cX9_init 104 = .ok (.aload_n 0, 1) := by decide +kernel
theorem dX9_init_105 : decode cX9_init 105 = .ok (.aload 5, 2) := by decide +kernel
theorem dX9_init_107 : decode cX9_init 107 = .ok (.putfield 62, 3) := by decide +kernel
theorem dX9_init_110 : decode cX9_init 110 = .ok (.aload_n 0, 1) := by decide +kernel
theorem dX9_init_111 : decode cX9_init 111 = .ok (.new 7, 3) := by decide +kernel
theorem dX9_init_114 : decode cX9_init 114 = .ok (.dup, 1) := by decide +kernel
theorem dX9_init_115 : decode cX9_init 115 = .ok (.invokespecial 9, 3) := by decide +kernel
theorem dX9_init_118 : decode cX9_init 118 = .ok (.putfield 66, 3) := by decide +kernel
theorem dX9_init_121 : decode cX9_init 121 = .ok (.aload_n 0, 1) := by decide +kernel
theorem dX9_init_122 : decode cX9_init 122 = .ok (.iconst 0, 1) := by decide +kernel
theorem dX9_init_123 : decode cX9_init 123 = .ok (.putfield 69, 3) := by decide +kernel
theorem dX9_init_126 : decode cX9_init 126 = .ok (.aload_n 0, 1) := by decide +kernel
theorem dX9_init_127 : decode cX9_init 127 = .ok (.new 73, 3) := by decide +kernel
theorem dX9_init_130 : decode cX9_init 130 = .ok (.dup, 1) := by decide +kernel
theorem dX9_init_131 : decode cX9_init 131 = .ok (.invokespecial 75, 3) := by decide +kernel
theorem dX9_init_134 : decode cX9_init 134 = .ok (.putfield 76, 3) := by decide +kernel
theorem dX9_init_137 : decode cX9_init 137 = .ok (.aload_n 0, 1) := by decide +kernel
theorem dX9_init_138 : decode cX9_init 138 = .ok (.new 80, 3) := by decide +kernel
theorem dX9_init_141 : decode cX9_init 141 = .ok (.dup, 1) := by decide +kernel
theorem dX9_init_142 : decode cX9_init 142 = .ok (.invokespecial 82, 3) := by decide +kernel
theorem dX9_init_145 : decode cX9_init 145 = .ok (.putfield 83, 3) := by decide +kernel
theorem dX9_init_148 : decode cX9_init 148 = .ok (.return_, 1) := by decide +kernel
theorem dX9_setPrime_0 : decode cX9_setPrime 0 = .ok (.iload_n 1, 1) := by decide +kernel
theorem dX9_setPrime_1 : decode cX9_setPrime 1 = .ok (.invokestatic 87, 3) := by decide +kernel
theorem dX9_setPrime_4 : decode cX9_setPrime 4 = .ok (.ifCond .ne 6, 3) := by decide +kernel
theorem dX9_setPrime_7 : decode cX9_setPrime 7 = .ok (.bipush (-2), 2) := by decide +kernel
theorem dX9_setPrime_9 : decode cX9_setPrime 9 = .ok (.ireturn, 1) := by decide +kernel
theorem dX9_setPrime_10 : decode cX9_setPrime 10 = .ok (.aload_n 0, 1) := by decide +kernel
theorem dX9_setPrime_11 : decode cX9_setPrime 11 = .ok (.getfield 46, 3) := by decide +kernel
theorem dX9_setPrime_14 : decode cX9_setPrime 14 = .ok (.getfield 91, 3) := by decide +kernel
theorem dX9_setPrime_17 : decode cX9_setPrime 17 = .ok (.istore_n 2, 1) := by decide +kernel
theorem dX9_setPrime_18 : decode cX9_setPrime 18 = .ok (.iload_n 1, 1) := by decide +kernel
theorem dX9_setPrime_19 : decode cX9_setPrime 19 = .ok (.iload_n 2, 1) := by decide +kernel
theorem dX9_setPrime_20 : decode cX9_setPrime 20 = .ok (.if_icmp .ne 6, 3) := by decide +kernel
theorem dX9_setPrime_23 : decode cX9_setPrime 23 = .ok (.bipush (-5), 2) := by decide +kernel
theorem dX9_setPrime_25 : decode cX9_setPrime 25 = .ok (.ireturn, 1) := by decide +kernel
theorem dX9_setPrime_26 : decode cX9_setPrime 26 = .ok (.aload_n 0, 1) := by decide +kernel
theorem dX9_setPrime_27 : decode cX9_setPrime 27 = .ok (.getfield 76, 3) := by decide +kernel
theorem dX9_setPrime_30 : decode cX9_setPrime 30 = .ok (.aload_n 0, 1) := by decide +kernel
theorem dX9_setPrime_31 : decode cX9_setPrime 31 = .ok (.getfield 46, 3) := by decide +kernel
theorem dX9_setPrime_34 : decode cX9_setPrime 34 = .ok (.invokevirtual 95, 3) := by decide +kernel
theorem dX9_setPrime_37 : decode cX9_setPrime 37 = .ok (.aload_n 0, 1) := by decide +kernel
theorem dX9_setPrime_38 : decode cX9_setPrime 38 = .ok (.getfield 46, 3) := by decide +kernel
theorem dX9_setPrime_41 : decode cX9_setPrime 41 = .ok (.iload_n 1, 1) := by decide +kernel
theorem dX9_setPrime_42 : decode cX9_setPrime 42 = .ok (.invokevirtual 98, 3) := by decide +kernel
theorem dX9_setPrime_45 : decode cX9_setPrime 45 = .ok (.iload_n 2, 1) := by decide +kernel
theorem dX9_setPrime_46 : decode cX9_setPrime 46 = .ok (.ireturn, 1) := by decide +kernel
theorem dX9_readModulus_0 : decode cX9_readModulus 0 = .ok (.aload_n 0, 1) := by decide +kernel
theorem dX9_readModulus_1 : decode cX9_readModulus 1 = .ok (.getfield 50, 3) := by decide +kernel
theorem dX9_readModulus_4 : decode cX9_readModulus 4 = .ok (.invokevirtual 102, 3) := by decide +kernel
theorem dX9_readModulus_7 : decode cX9_readModulus 7 = .ok (.istore_n 1, 1) := by decide +kernel
theorem dX9_readModulus_8 : decode cX9_readModulus 8 = .ok (.iload_n 1, 1) := by decide +kernel
theorem dX9_readModulus_9 : decode cX9_readModulus 9 = .ok (.ifCond .lt 8, 3) := by decide +kernel
theorem dX9_readModulus_12 : decode cX9_readModulus 12 = .ok (.bipush (-100), 2) := by decide +kernel
theorem dX9_readModulus_14 : decode cX9_readModulus 14 = .ok (.iload_n 1, 1) := by decide +kernel
theorem dX9_readModulus_15 : decode cX9_readModulus 15 = .ok (.isub, 1) := by decide +kernel
theorem dX9_readModulus_16 : decode cX9_readModulus 16 = .ok (.ireturn, 1) := by decide +kernel
theorem dX9_readModulus_17 : decode cX9_readModulus 17 = .ok (.aload_n 0, 1) := by decide +kernel
theorem dX9_readModulus_18 : decode cX9_readModulus 18 = .ok (.invokevirtual 106, 3) := by decide +kernel
theorem dX9_readModulus_21 : decode cX9_readModulus 21 = .ok (.ifCond .ne 6, 3) := by decide +kernel
theorem dX9_readModulus_24 : decode cX9_readModulus 24 = .ok (.bipush (-2), 2) := by decide +kernel
theorem dX9_readModulus_26 : decode cX9_readModulus 26 = .ok (.ireturn, 1) := by decide +kernel
theorem dX9_readModulus_27 : decode cX9_readModulus 27 = .ok (.aload_n 0, 1) := by decide +kernel
theorem dX9_readModulus_28 : decode cX9_readModulus 28 = .ok (.getfield 50, 3) := by decide +kernel
theorem dX9_readModulus_31 : decode cX9_readModulus 31 = .ok (.aload_n 0, 1) := by decide +kernel
theorem dX9_readModulus_32 : decode cX9_readModulus 32 = .ok (.getfield 83, 3) := by decide +kernel
theorem dX9_readModulus_35 : decode cX9_readModulus 35 = .ok (.invokevirtual 110, 3) := by decide +kernel
theorem dX9_readModulus_38 : decode cX9_readModulus 38 = .ok (.aload_n 0, 1) := by decide +kernel
theorem dX9_readModulus_39 : decode cX9_readModulus 39 = .ok (.getfield 54, 3) := by decide +kernel
theorem dX9_readModulus_42 : decode cX9_readModulus 42 = .ok (.aload_n 0, 1) := by decide +kernel
theorem dX9_readModulus_43 : decode cX9_readModulus 43 = .ok (.getfield 83, 3) := by decide +kernel
theorem dX9_readModulus_46 : decode cX9_readModulus 46 = .ok (.invokevirtual 114, 3) := by decide +kernel
theorem dX9_readModulus_49 : decode cX9_readModulus 49 = .ok (.ifCond .eq 6, 3) := by decide +kernel
theorem dX9_readModulus_52 : decode cX9_readModulus 52 = .ok (.bipush (-4), 2) := by decide +kernel
theorem dX9_readModulus_54 : decode cX9_readModulus 54 = .ok (.ireturn, 1) := by decide +kernel
theorem dX9_readModulus_55 : decode cX9_readModulus 55 = .ok (.aload_n 0, 1) := by decide +kernel
theorem dX9_readModulus_56 : decode cX9_readModulus 56 = .ok (.getfield 83, 3) := by decide +kernel
theorem dX9_readModulus_59 : decode cX9_readModulus 59 = .ok (.aload_n 0, 1) := by decide +kernel
theorem dX9_readModulus_60 : decode cX9_readModulus 60 = .ok (.getfield 46, 3) := by decide +kernel
theorem dX9_readModulus_63 : decode cX9_readModulus 63 = .ok (.getfield 118, 3) := by decide +kernel
theorem dX9_readModulus_66 : decode cX9_readModulus 66 = .ok (.invokevirtual 121, 3) := by decide +kernel
theorem dX9_readModulus_69 : decode cX9_readModulus 69 = .ok (.ifCond .eq 6, 3) := by decide +kernel
theorem dX9_readModulus_72 : decode cX9_readModulus 72 = .ok (.bipush (-5), 2) := by decide +kernel
theorem dX9_readModulus_74 : decode cX9_readModulus 74 = .ok (.ireturn, 1) := by decide +kernel
theorem dX9_readModulus_75 : decode cX9_readModulus 75 = .ok (.aload_n 0, 1) := by decide +kernel
theorem dX9_readModulus_76 : decode cX9_readModulus 76 = .ok (.getfield 76, 3) := by decide +kernel
theorem dX9_readModulus_79 : decode cX9_readModulus 79 = .ok (.aload_n 0, 1) := by decide +kernel
theorem dX9_readModulus_80 : decode cX9_readModulus 80 = .ok (.getfield 46, 3) := by decide +kernel
theorem dX9_readModulus_83 : decode cX9_readModulus 83 = .ok (.invokevirtual 95, 3) := by decide +kernel
theorem dX9_readModulus_86 : decode cX9_readModulus 86 = .ok (.aload_n 0, 1) := by decide +kernel
theorem dX9_readModulus_87 : decode cX9_readModulus 87 = .ok (.getfield 46, 3) := by decide +kernel
theorem dX9_readModulus_90 : decode cX9_readModulus 90 = .ok (.aload_n 0, 1) := by decide +kernel
theorem dX9_readModulus_91 : decode cX9_readModulus 91 = .ok (.getfield 83, 3) := by decide +kernel
theorem dX9_readModulus_94 : decode cX9_readModulus 94 = .ok (.invokevirtual 124, 3) := by decide +kernel
theorem dX9_readModulus_97 : decode cX9_readModulus 97 = .ok (.iconst 0, 1) := by decide +kernel
theorem dX9_readModulus_98 : decode cX9_readModulus 98 = .ok (.istore_n 2, 1) := by decide +kernel
theorem dX9_readModulus_99 : decode cX9_readModulus 99 = .ok (.iload_n 2, 1) := by decide +kernel
theorem dX9_readModulus_100 : decode cX9_readModulus 100 = .ok (.bipush 6, 2) := by decide +kernel
theorem dX9_readModulus_102 : decode cX9_readModulus 102 = .ok (.if_icmp .ge 32, 3) := by decide +kernel
theorem dX9_readModulus_105 : decode cX9_readModulus 105 = .ok (.aload_n 0, 1) := by decide +kernel
theorem dX9_readModulus_106 : decode cX9_readModulus 106 = .ok (.getfield 54, 3) := by decide +kernel
theorem dX9_readModulus_109 : decode cX9_readModulus 109 = .ok (.aload_n 0, 1) := by decide +kernel
theorem dX9_readModulus_110 : decode cX9_readModulus 110 = .ok (.getfield 46, 3) := by decide +kernel
theorem dX9_readModulus_113 : decode cX9_readModulus 113 = .ok (.getfield 127, 3) := by decide +kernel
theorem dX9_readModulus_116 : decode cX9_readModulus 116 = .ok (.iload_n 2, 1) := by decide +kernel
theorem dX9_readModulus_117 : decode cX9_readModulus 117 = .ok (.aaload, 1) := by decide +kernel
theorem dX9_readModulus_118 : decode cX9_readModulus 118 = .ok (.aload_n 0, 1) := by decide +kernel
theorem dX9_readModulus_119 : decode cX9_readModulus 119 = .ok (.getfield 46, 3) := by decide +kernel
theorem dX9_readModulus_122 : decode cX9_readModulus 122 = .ok (.getfield 118, 3) := by decide +kernel
theorem dX9_readModulus_125 : decode cX9_readModulus 125 = .ok (.invokevirtual 131, 3) := by decide +kernel
theorem dX9_readModulus_128 : decode cX9_readModulus 128 = .ok (.iinc 2 1, 3) := by decide +kernel
theorem dX9_readModulus_131 : decode cX9_readModulus 131 = .ok (.goto (-32), 3) := by decide +kernel
theorem dX9_readModulus_134 : decode cX9_readModulus 134 = .ok (.aload_n 0, 1) := by decide +kernel
theorem dX9_readModulus_135 : decode cX9_readModulus 135 = .ok (.getfield 46, 3) := by decide +kernel
theorem dX9_readModulus_138 : decode cX9_readModulus 138 = .ok (.getfield 118, 3) := by decide +kernel
theorem dX9_readModulus_141 : decode cX9_readModulus 141 = .ok (.getfield 135, 3) := by decide +kernel
theorem dX9_readModulus_144 : decode cX9_readModulus 144 = .ok (.ireturn, 1) := by decide +kernel
theorem dX9_setNumber_0 : decode cX9_setNumber 0 = .ok (.iload_n 1, 1) := by decide +kernel
theorem dX9_setNumber_1 : decode cX9_setNumber 1 = .ok (.invokestatic 138, 3) := by decide +kernel
theorem dX9_setNumber_4 : decode cX9_setNumber 4 = .ok (.ifCond .ne 5, 3) := by decide +kernel
theorem dX9_setNumber_7 : decode cX9_setNumber 7 = .ok (.iconst (-1), 1) := by decide +kernel
theorem dX9_setNumber_8 : decode cX9_setNumber 8 = .ok (.ireturn, 1) := by decide +kernel
theorem dX9_setNumber_9 : decode cX9_setNumber 9 = .ok (.aload_n 0, 1) := by decide +kernel
theorem dX9_setNumber_10 : decode cX9_setNumber 10 = .ok (.iload_n 2, 1) := by decide +kernel
theorem dX9_setNumber_11 : decode cX9_setNumber 11 = .ok (.invokevirtual 141, 3) := by decide +kernel
theorem dX9_setNumber_14 : decode cX9_setNumber 14 = .ok (.ifCond .eq 18, 3) := by decide +kernel
theorem dX9_setNumber_17 : decode cX9_setNumber 17 = .ok (.iload_n 3, 1) := by decide +kernel
theorem dX9_setNumber_18 : decode cX9_setNumber 18 = .ok (.ifCond .lt 14, 3) := by decide +kernel
theorem dX9_setNumber_21 : decode cX9_setNumber 21 = .ok (.iload_n 3, 1) := by decide +kernel
theorem dX9_setNumber_22 : decode cX9_setNumber 22 = .ok (.aload_n 0, 1) := by decide +kernel
theorem dX9_setNumber_23 : decode cX9_setNumber 23 = .ok (.getfield 46, 3) := by decide +kernel
theorem dX9_setNumber_26 : decode cX9_setNumber 26 = .ok (.getfield 91, 3) := by decide +kernel
theorem dX9_setNumber_29 : decode cX9_setNumber 29 = .ok (.if_icmp .lt 6, 3) := by decide +kernel
theorem dX9_setNumber_32 : decode cX9_setNumber 32 = .ok (.bipush (-2), 2) := by decide +kernel
theorem dX9_setNumber_34 : decode cX9_setNumber 34 = .ok (.ireturn, 1) := by decide +kernel
theorem dX9_setNumber_35 : decode cX9_setNumber 35 = .ok (.aload_n 0, 1) := by decide +kernel
theorem dX9_setNumber_36 : decode cX9_setNumber 36 = .ok (.getfield 46, 3) := by decide +kernel
theorem dX9_setNumber_39 : decode cX9_setNumber 39 = .ok (.getfield 127, 3) := by decide +kernel
theorem dX9_setNumber_42 : decode cX9_setNumber 42 = .ok (.iload_n 1, 1) := by decide +kernel
theorem dX9_setNumber_43 : decode cX9_setNumber 43 = .ok (.aaload, 1) := by decide +kernel
theorem dX9_setNumber_44 : decode cX9_setNumber 44 = .ok (.iload_n 2, 1) := by decide +kernel
theorem dX9_setNumber_45 : decode cX9_setNumber 45 = .ok (.invokevirtual 144, 3) := by decide +kernel
theorem dX9_setNumber_48 : decode cX9_setNumber 48 = .ok (.istore 4, 2) := by decide +kernel
theorem dX9_setNumber_50 : decode cX9_setNumber 50 = .ok (.iload_n 3, 1) := by decide +kernel
theorem dX9_setNumber_51 : decode cX9_setNumber 51 = .ok (.iload 4, 2) := by decide +kernel
theorem dX9_setNumber_53 : decode cX9_setNumber 53 = .ok (.if_icmp .ne 6, 3) := by decide +kernel
theorem dX9_setNumber_56 : decode cX9_setNumber 56 = .ok (.bipush (-5), 2) := by decide +kernel
theorem dX9_setNumber_58 : decode cX9_setNumber 58 = .ok (.ireturn, 1) := by decide +kernel
theorem dX9_setNumber_59 : decode cX9_setNumber 59 = .ok (.aload_n 0, 1) := by decide +kernel
theorem dX9_setNumber_60 : decode cX9_setNumber 60 = .ok (.getfield 76, 3) := by decide +kernel
theorem dX9_setNumber_63 : decode cX9_setNumber 63 = .ok (.aload_n 0, 1) := by decide +kernel
theorem dX9_setNumber_64 : decode cX9_setNumber 64 = .ok (.getfield 46, 3) := by decide +kernel
theorem dX9_setNumber_67 : decode cX9_setNumber 67 = .ok (.invokevirtual 95, 3) := by decide +kernel
theorem dX9_setNumber_70 : decode cX9_setNumber 70 = .ok (.aload_n 0, 1) := by decide +kernel
theorem dX9_setNumber_71 : decode cX9_setNumber 71 = .ok (.getfield 46, 3) := by decide +kernel
theorem dX9_setNumber_74 : decode cX9_setNumber 74 = .ok (.getfield 127, 3) := by decide +kernel
theorem dX9_setNumber_77 : decode cX9_setNumber 77 = .ok (.iload_n 1, 1) := by decide +kernel
theorem dX9_setNumber_78 : decode cX9_setNumber 78 = .ok (.aaload, 1) := by decide +kernel
theorem dX9_setNumber_79 : decode cX9_setNumber 79 = .ok (.iload_n 2, 1) := by decide +kernel
theorem dX9_setNumber_80 : decode cX9_setNumber 80 = .ok (.iload_n 3, 1) := by decide +kernel
theorem dX9_setNumber_81 : decode cX9_setNumber 81 = .ok (.invokevirtual 148, 3) := by decide +kernel
theorem dX9_setNumber_84 : decode cX9_setNumber 84 = .ok (.iload 4, 2) := by decide +kernel
theorem dX9_setNumber_86 : decode cX9_setNumber 86 = .ok (.ireturn, 1) := by decide +kernel
theorem dX9_assign_0 : decode cX9_assign 0 = .ok (.aload_n 0, 1) := by decide +kernel
theorem dX9_assign_1 : decode cX9_assign 1 = .ok (.getfield 50, 3) := by decide +kernel
theorem dX9_assign_4 : decode cX9_assign 4 = .ok (.invokevirtual 152, 3) := by decide +kernel
theorem dX9_assign_7 : decode cX9_assign 7 = .ok (.istore_n 1, 1) := by decide +kernel
theorem dX9_assign_8 : decode cX9_assign 8 = .ok (.iload_n 1, 1) := by decide +kernel
theorem dX9_assign_9 : decode cX9_assign 9 = .ok (.ifCond .lt 8, 3) := by decide +kernel
theorem dX9_assign_12 : decode cX9_assign 12 = .ok (.bipush (-100), 2) := by decide +kernel
theorem dX9_assign_14 : decode cX9_assign 14 = .ok (.iload_n 1, 1) := by decide +kernel
theorem dX9_assign_15 : decode cX9_assign 15 = .ok (.isub, 1) := by decide +kernel
theorem dX9_assign_16 : decode cX9_assign 16 = .ok (.ireturn, 1) := by decide +kernel
theorem dX9_assign_17 : decode cX9_assign 17 = .ok (.aload_n 0, 1) := by decide +kernel
theorem dX9_assign_18 : decode cX9_assign 18 = .ok (.getfield 50, 3) := by decide +kernel
theorem dX9_assign_21 : decode cX9_assign 21 = .ok (.iconst 0, 1) := by decide +kernel
theorem dX9_assign_22 : decode cX9_assign 22 = .ok (.invokevirtual 155, 3) := by decide +kernel
theorem dX9_assign_25 : decode cX9_assign 25 = .ok (.bipush 97, 2) := by decide +kernel
theorem dX9_assign_27 : decode cX9_assign 27 = .ok (.isub, 1) := by decide +kernel
theorem dX9_assign_28 : decode cX9_assign 28 = .ok (.istore_n 2, 1) := by decide +kernel
theorem dX9_assign_29 : decode cX9_assign 29 = .ok (.iload_n 2, 1) := by decide +kernel
theorem dX9_assign_30 : decode cX9_assign 30 = .ok (.invokestatic 138, 3) := by decide +kernel
theorem dX9_assign_33 : decode cX9_assign 33 = .ok (.ifCond .ne 6, 3) := by decide +kernel
theorem dX9_assign_36 : decode cX9_assign 36 = .ok (.bipush (-100), 2) := by decide +kernel
theorem dX9_assign_38 : decode cX9_assign 38 = .ok (.ireturn, 1) := by decide +kernel
theorem dX9_assign_39 : decode cX9_assign 39 = .ok (.aload_n 0, 1) := by decide +kernel
theorem dX9_assign_40 : decode cX9_assign 40 = .ok (.getfield 76, 3) := by decide +kernel
theorem dX9_assign_43 : decode cX9_assign 43 = .ok (.aload_n 0, 1) := by decide +kernel
theorem dX9_assign_44 : decode cX9_assign 44 = .ok (.getfield 46, 3) := by decide +kernel
theorem dX9_assign_47 : decode cX9_assign 47 = .ok (.invokevirtual 95, 3) := by decide +kernel
theorem dX9_assign_50 : decode cX9_assign 50 = .ok (.aload_n 0, 1) := by decide +kernel
theorem dX9_assign_51 : decode cX9_assign 51 = .ok (.getfield 42, 3) := by decide +kernel
theorem dX9_assign_54 : decode cX9_assign 54 = .ok (.aload_n 0, 1) := by decide +kernel
theorem dX9_assign_55 : decode cX9_assign 55 = .ok (.getfield 46, 3) := by decide +kernel
theorem dX9_assign_58 : decode cX9_assign 58 = .ok (.getfield 127, 3) := by decide +kernel
theorem dX9_assign_61 : decode cX9_assign 61 = .ok (.iload_n 2, 1) := by decide +kernel
theorem dX9_assign_62 : decode cX9_assign 62 = .ok (.aaload, 1) := by decide +kernel
theorem dX9_assign_63 : decode cX9_assign 63 = .ok (.invokevirtual 156, 3) := by decide +kernel
theorem dX9_assign_66 : decode cX9_assign 66 = .ok (.aload_n 0, 1) := by decide +kernel
theorem dX9_assign_67 : decode cX9_assign 67 = .ok (.getfield 46, 3) := by decide +kernel
theorem dX9_assign_70 : decode cX9_assign 70 = .ok (.getfield 159, 3) := by decide +kernel
theorem dX9_assign_73 : decode cX9_assign 73 = .ok (.ireturn, 1) := by decide +kernel
theorem dX9_put_0 : decode cX9_put 0 = .ok (.iload_n 1, 1) := by decide +kernel
theorem dX9_put_1 : decode cX9_put 1 = .ok (.invokestatic 138, 3) := by decide +kernel
theorem dX9_put_4 : decode cX9_put 4 = .ok (.ifCond .eq 18, 3) := by decide +kernel
theorem dX9_put_7 : decode cX9_put 7 = .ok (.aload_n 0, 1) := by decide +kernel
theorem dX9_put_8 : decode cX9_put 8 = .ok (.iload_n 2, 1) := by decide +kernel
theorem dX9_put_9 : decode cX9_put 9 = .ok (.invokevirtual 162, 3) := by decide +kernel
theorem dX9_put_12 : decode cX9_put 12 = .ok (.ifCond .eq 10, 3) := by decide +kernel
theorem dX9_put_15 : decode cX9_put 15 = .ok (.iload_n 3, 1) := by decide +kernel
theorem dX9_put_16 : decode cX9_put 16 = .ok (.invokestatic 138, 3) := by decide +kernel
theorem dX9_put_19 : decode cX9_put 19 = .ok (.ifCond .ne 5, 3) := by decide +kernel
theorem dX9_put_22 : decode cX9_put 22 = .ok (.iconst (-1), 1) := by decide +kernel
theorem dX9_put_23 : decode cX9_put 23 = .ok (.ireturn, 1) := by decide +kernel
theorem dX9_put_24 : decode cX9_put 24 = .ok (.iload_n 1, 1) := by decide +kernel
theorem dX9_put_25 : decode cX9_put 25 = .ok (.iload_n 3, 1) := by decide +kernel
theorem dX9_put_26 : decode cX9_put 26 = .ok (.if_icmp .ne 6, 3) := by decide +kernel
theorem dX9_put_29 : decode cX9_put 29 = .ok (.bipush (-2), 2) := by decide +kernel
theorem dX9_put_31 : decode cX9_put 31 = .ok (.ireturn, 1) := by decide +kernel
theorem dX9_put_32 : decode cX9_put 32 = .ok (.aload_n 0, 1) := by decide +kernel
theorem dX9_put_33 : decode cX9_put 33 = .ok (.getfield 46, 3) := by decide +kernel
theorem dX9_put_36 : decode cX9_put 36 = .ok (.getfield 127, 3) := by decide +kernel
theorem dX9_put_39 : decode cX9_put 39 = .ok (.iload_n 1, 1) := by decide +kernel
theorem dX9_put_40 : decode cX9_put 40 = .ok (.aaload, 1) := by decide +kernel
theorem dX9_put_41 : decode cX9_put 41 = .ok (.astore 4, 2) := by decide +kernel
theorem dX9_put_43 : decode cX9_put 43 = .ok (.aload_n 0, 1) := by decide +kernel
theorem dX9_put_44 : decode cX9_put 44 = .ok (.getfield 58, 3) := by decide +kernel
theorem dX9_put_47 : decode cX9_put 47 = .ok (.aload_n 0, 1) := by decide +kernel
theorem dX9_put_48 : decode cX9_put 48 = .ok (.getfield 83, 3) := by decide +kernel
theorem dX9_put_51 : decode cX9_put 51 = .ok (.aload 4, 2) := by decide +kernel
theorem dX9_put_53 : decode cX9_put 53 = .ok (.aload_n 0, 1) := by decide +kernel
theorem dX9_put_54 : decode cX9_put 54 = .ok (.getfield 46, 3) := by decide +kernel
theorem dX9_put_57 : decode cX9_put 57 = .ok (.getfield 165, 3) := by decide +kernel
theorem dX9_put_60 : decode cX9_put 60 = .ok (.iload_n 2, 1) := by decide +kernel
theorem dX9_put_61 : decode cX9_put 61 = .ok (.aaload, 1) := by decide +kernel
theorem dX9_put_62 : decode cX9_put 62 = .ok (.aload_n 0, 1) := by decide +kernel
theorem dX9_put_63 : decode cX9_put 63 = .ok (.getfield 46, 3) := by decide +kernel
theorem dX9_put_66 : decode cX9_put 66 = .ok (.getfield 127, 3) := by decide +kernel
theorem dX9_put_69 : decode cX9_put 69 = .ok (.iload_n 3, 1) := by decide +kernel
theorem dX9_put_70 : decode cX9_put 70 = .ok (.aaload, 1) := by decide +kernel
theorem dX9_put_71 : decode cX9_put 71 = .ok (.invokevirtual 168, 3) := by decide +kernel
theorem dX9_put_74 : decode cX9_put 74 = .ok (.aload_n 0, 1) := by decide +kernel
theorem dX9_put_75 : decode cX9_put 75 = .ok (.getfield 62, 3) := by decide +kernel
theorem dX9_put_78 : decode cX9_put 78 = .ok (.aload 4, 2) := by decide +kernel
theorem dX9_put_80 : decode cX9_put 80 = .ok (.aload_n 0, 1) := by decide +kernel
theorem dX9_put_81 : decode cX9_put 81 = .ok (.getfield 83, 3) := by decide +kernel
theorem dX9_put_84 : decode cX9_put 84 = .ok (.invokevirtual 172, 3) := by decide +kernel
theorem dX9_put_87 : decode cX9_put 87 = .ok (.istore 5, 2) := by decide +kernel
theorem dX9_put_89 : decode cX9_put 89 = .ok (.iload 5, 2) := by decide +kernel
theorem dX9_put_91 : decode cX9_put 91 = .ok (.ifCond .ne 6, 3) := by decide +kernel
theorem dX9_put_94 : decode cX9_put 94 = .ok (.bipush (-5), 2) := by decide +kernel
theorem dX9_put_96 : decode cX9_put 96 = .ok (.ireturn, 1) := by decide +kernel
theorem dX9_put_97 : decode cX9_put 97 = .ok (.aload_n 0, 1) := by decide +kernel
theorem dX9_put_98 : decode cX9_put 98 = .ok (.getfield 76, 3) := by decide +kernel
theorem dX9_put_101 : decode cX9_put 101 = .ok (.aload_n 0, 1) := by decide +kernel
theorem dX9_put_102 : decode cX9_put 102 = .ok (.getfield 46, 3) := by decide +kernel
theorem dX9_put_105 : decode cX9_put 105 = .ok (.invokevirtual 95, 3) := by decide +kernel
theorem dX9_put_108 : decode cX9_put 108 = .ok (.aload 4, 2) := by decide +kernel
theorem dX9_put_110 : decode cX9_put 110 = .ok (.aload_n 0, 1) := by decide +kernel
theorem dX9_put_111 : decode cX9_put 111 = .ok (.getfield 83, 3) := by decide +kernel
theorem dX9_put_114 : decode cX9_put 114 = .ok (.invokevirtual 176, 3) := by decide +kernel
theorem dX9_put_117 : decode cX9_put 117 = .ok (.iload 5, 2) := by decide +kernel
theorem dX9_put_119 : decode cX9_put 119 = .ok (.ireturn, 1) := by decide +kernel
theorem dX9_part_0 : decode cX9_part 0 = .ok (.iload_n 1, 1) := by decide +kernel
theorem dX9_part_1 : decode cX9_part 1 = .ok (.invokestatic 138, 3) := by decide +kernel
theorem dX9_part_4 : decode cX9_part 4 = .ok (.ifCond .ne 5, 3) := by decide +kernel
theorem dX9_part_7 : decode cX9_part 7 = .ok (.iconst (-1), 1) := by decide +kernel
theorem dX9_part_8 : decode cX9_part 8 = .ok (.ireturn, 1) := by decide +kernel
theorem dX9_part_9 : decode cX9_part 9 = .ok (.aload_n 0, 1) := by decide +kernel
theorem dX9_part_10 : decode cX9_part 10 = .ok (.getfield 46, 3) := by decide +kernel
theorem dX9_part_13 : decode cX9_part 13 = .ok (.getfield 127, 3) := by decide +kernel
theorem dX9_part_16 : decode cX9_part 16 = .ok (.iload_n 1, 1) := by decide +kernel
theorem dX9_part_17 : decode cX9_part 17 = .ok (.aaload, 1) := by decide +kernel
theorem dX9_part_18 : decode cX9_part 18 = .ok (.astore_n 2, 1) := by decide +kernel
theorem dX9_part_19 : decode cX9_part 19 = .ok (.aload_n 0, 1) := by decide +kernel
theorem dX9_part_20 : decode cX9_part 20 = .ok (.getfield 62, 3) := by decide +kernel
theorem dX9_part_23 : decode cX9_part 23 = .ok (.aload_n 2, 1) := by decide +kernel
theorem dX9_part_24 : decode cX9_part 24 = .ok (.iconst 2, 1) := by decide +kernel
theorem dX9_part_25 : decode cX9_part 25 = .ok (.invokevirtual 179, 3) := by decide +kernel
theorem dX9_part_28 : decode cX9_part 28 = .ok (.ifCond .ne 6, 3) := by decide +kernel
theorem dX9_part_31 : decode cX9_part 31 = .ok (.bipush (-5), 2) := by decide +kernel
theorem dX9_part_33 : decode cX9_part 33 = .ok (.ireturn, 1) := by decide +kernel
theorem dX9_part_34 : decode cX9_part 34 = .ok (.aload_n 0, 1) := by decide +kernel
theorem dX9_part_35 : decode cX9_part 35 = .ok (.getfield 76, 3) := by decide +kernel
theorem dX9_part_38 : decode cX9_part 38 = .ok (.aload_n 0, 1) := by decide +kernel
theorem dX9_part_39 : decode cX9_part 39 = .ok (.getfield 46, 3) := by decide +kernel
theorem dX9_part_42 : decode cX9_part 42 = .ok (.invokevirtual 95, 3) := by decide +kernel
theorem dX9_part_45 : decode cX9_part 45 = .ok (.aload_n 0, 1) := by decide +kernel
theorem dX9_part_46 : decode cX9_part 46 = .ok (.getfield 62, 3) := by decide +kernel
theorem dX9_part_49 : decode cX9_part 49 = .ok (.aload_n 2, 1) := by decide +kernel
theorem dX9_part_50 : decode cX9_part 50 = .ok (.invokevirtual 183, 3) := by decide +kernel
theorem dX9_part_53 : decode cX9_part 53 = .ok (.aload_n 0, 1) := by decide +kernel
theorem dX9_part_54 : decode cX9_part 54 = .ok (.getfield 62, 3) := by decide +kernel
theorem dX9_part_57 : decode cX9_part 57 = .ok (.aload_n 2, 1) := by decide +kernel
theorem dX9_part_58 : decode cX9_part 58 = .ok (.iconst 0, 1) := by decide +kernel
theorem dX9_part_59 : decode cX9_part 59 = .ok (.invokevirtual 179, 3) := by decide +kernel
theorem dX9_part_62 : decode cX9_part 62 = .ok (.ireturn, 1) := by decide +kernel
theorem dX9_partByDegrees_0 : decode cX9_partByDegrees 0 = .ok (.aload_n 0, 1) := by decide +kernel
theorem dX9_partByDegrees_1 : decode cX9_partByDegrees 1 = .ok (.getfield 31, 3) := by decide +kernel
theorem dX9_partByDegrees_4 : decode cX9_partByDegrees 4 = .ok (.invokevirtual 186, 3) := by decide +kernel
theorem dX9_partByDegrees_7 : decode cX9_partByDegrees 7 = .ok (.iconst 0, 1) := by decide +kernel
theorem dX9_partByDegrees_8 : decode cX9_partByDegrees 8 = .ok (.istore_n 1, 1) := by decide +kernel
theorem dX9_partByDegrees_9 : decode cX9_partByDegrees 9 = .ok (.iconst 1, 1) := by decide +kernel
theorem dX9_partByDegrees_10 : decode cX9_partByDegrees 10 = .ok (.istore_n 2, 1) := by decide +kernel
theorem dX9_partByDegrees_11 : decode cX9_partByDegrees 11 = .ok (.iload_n 2, 1) := by decide +kernel
theorem dX9_partByDegrees_12 : decode cX9_partByDegrees 12 = .ok (.bipush 6, 2) := by decide +kernel
theorem dX9_partByDegrees_14 : decode cX9_partByDegrees 14 = .ok (.if_icmp .gt 39, 3) := by decide +kernel
theorem dX9_partByDegrees_17 : decode cX9_partByDegrees 17 = .ok (.iload_n 1, 1) := by decide +kernel
theorem dX9_partByDegrees_18 : decode cX9_partByDegrees 18 = .ok (.ifCond .ne 23, 3) := by decide +kernel
theorem dX9_partByDegrees_21 : decode cX9_partByDegrees 21 = .ok (.aload_n 0, 1) := by decide +kernel
theorem dX9_partByDegrees_22 : decode cX9_partByDegrees 22 = .ok (.getfield 62, 3) := by decide +kernel
theorem dX9_partByDegrees_25 : decode cX9_partByDegrees 25 = .ok (.aload_n 0, 1) := by decide +kernel
theorem dX9_partByDegrees_26 : decode cX9_partByDegrees 26 = .ok (.getfield 31, 3) := by decide +kernel
theorem dX9_partByDegrees_29 : decode cX9_partByDegrees 29 = .ok (.getfield 189, 3) := by decide +kernel
theorem dX9_partByDegrees_32 : decode cX9_partByDegrees 32 = .ok (.iload_n 2, 1) := by decide +kernel
theorem dX9_partByDegrees_33 : decode cX9_partByDegrees 33 = .ok (.aaload, 1) := by decide +kernel
theorem dX9_partByDegrees_34 : decode cX9_partByDegrees 34 = .ok (.iconst 2, 1) := by decide +kernel
theorem dX9_partByDegrees_35 : decode cX9_partByDegrees 35 = .ok (.invokevirtual 179, 3) := by decide +kernel
theorem dX9_partByDegrees_38 : decode cX9_partByDegrees 38 = .ok (.ifCond .le 7, 3) := by decide +kernel
theorem dX9_partByDegrees_41 : decode cX9_partByDegrees 41 = .ok (.iconst 1, 1) := by decide +kernel
theorem dX9_partByDegrees_42 : decode cX9_partByDegrees 42 = .ok (.goto 4, 3) := by decide +kernel
theorem dX9_partByDegrees_45 : decode cX9_partByDegrees 45 = .ok (.iconst 0, 1) := by decide +kernel
theorem dX9_partByDegrees_46 : decode cX9_partByDegrees 46 = .ok (.istore_n 1, 1) := by decide +kernel
theorem dX9_partByDegrees_47 : decode cX9_partByDegrees 47 = .ok (.iinc 2 1, 3) := by decide +kernel
theorem dX9_partByDegrees_50 : decode cX9_partByDegrees 50 = .ok (.goto (-39), 3) := by decide +kernel
theorem dX9_partByDegrees_53 : decode cX9_partByDegrees 53 = .ok (.iload_n 1, 1) := by decide +kernel
theorem dX9_partByDegrees_54 : decode cX9_partByDegrees 54 = .ok (.ifCond .ne 6, 3) := by decide +kernel
theorem dX9_partByDegrees_57 : decode cX9_partByDegrees 57 = .ok (.bipush (-5), 2) := by decide +kernel
theorem dX9_partByDegrees_59 : decode cX9_partByDegrees 59 = .ok (.ireturn, 1) := by decide +kernel
theorem dX9_partByDegrees_60 : decode cX9_partByDegrees 60 = .ok (.aload_n 0, 1) := by decide +kernel
theorem dX9_partByDegrees_61 : decode cX9_partByDegrees 61 = .ok (.getfield 76, 3) := by decide +kernel
theorem dX9_partByDegrees_64 : decode cX9_partByDegrees 64 = .ok (.aload_n 0, 1) := by decide +kernel
theorem dX9_partByDegrees_65 : decode cX9_partByDegrees 65 = .ok (.getfield 46, 3) := by decide +kernel
theorem dX9_partByDegrees_68 : decode cX9_partByDegrees 68 = .ok (.invokevirtual 95, 3) := by decide +kernel
theorem dX9_partByDegrees_71 : decode cX9_partByDegrees 71 = .ok (.iconst 1, 1) := by decide +kernel
theorem dX9_partByDegrees_72 : decode cX9_partByDegrees 72 = .ok (.istore_n 2, 1) := by decide +kernel
theorem dX9_partByDegrees_73 : decode cX9_partByDegrees 73 = .ok (.iload_n 2, 1) := by decide +kernel
theorem dX9_partByDegrees_74 : decode cX9_partByDegrees 74 = .ok (.bipush 6, 2) := by decide +kernel
theorem dX9_partByDegrees_76 : decode cX9_partByDegrees 76 = .ok (.if_icmp .gt 25, 3) := by decide +kernel
theorem dX9_partByDegrees_79 : decode cX9_partByDegrees 79 = .ok (.aload_n 0, 1) := by decide +kernel
theorem dX9_partByDegrees_80 : decode cX9_partByDegrees 80 = .ok (.getfield 62, 3) := by decide +kernel
theorem dX9_partByDegrees_83 : decode cX9_partByDegrees 83 = .ok (.aload_n 0, 1) := by decide +kernel
theorem dX9_partByDegrees_84 : decode cX9_partByDegrees 84 = .ok (.getfield 31, 3) := by decide +kernel
theorem dX9_partByDegrees_87 : decode cX9_partByDegrees 87 = .ok (.getfield 189, 3) := by decide +kernel
theorem dX9_partByDegrees_90 : decode cX9_partByDegrees 90 = .ok (.iload_n 2, 1) := by decide +kernel
theorem dX9_partByDegrees_91 : decode cX9_partByDegrees 91 = .ok (.aaload, 1) := by decide +kernel
theorem dX9_partByDegrees_92 : decode cX9_partByDegrees 92 = .ok (.invokevirtual 183, 3) := by decide +kernel
theorem dX9_partByDegrees_95 : decode cX9_partByDegrees 95 = .ok (.iinc 2 1, 3) := by decide +kernel
theorem dX9_partByDegrees_98 : decode cX9_partByDegrees 98 = .ok (.goto (-25), 3) := by decide +kernel
theorem dX9_partByDegrees_101 : decode cX9_partByDegrees 101 = .ok (.aload_n 0, 1) := by decide +kernel
theorem dX9_partByDegrees_102 : decode cX9_partByDegrees 102 = .ok (.getfield 46, 3) := by decide +kernel
theorem dX9_partByDegrees_105 : decode cX9_partByDegrees 105 = .ok (.getfield 159, 3) := by decide +kernel
theorem dX9_partByDegrees_108 : decode cX9_partByDegrees 108 = .ok (.ireturn, 1) := by decide +kernel
theorem dX9_join_0 : decode cX9_join 0 = .ok (.aload_n 0, 1) := by decide +kernel
theorem dX9_join_1 : decode cX9_join 1 = .ok (.iload_n 1, 1) := by decide +kernel
theorem dX9_join_2 : decode cX9_join 2 = .ok (.invokevirtual 162, 3) := by decide +kernel
theorem dX9_join_5 : decode cX9_join 5 = .ok (.ifCond .eq 11, 3) := by decide +kernel
theorem dX9_join_8 : decode cX9_join 8 = .ok (.aload_n 0, 1) := by decide +kernel
theorem dX9_join_9 : decode cX9_join 9 = .ok (.iload_n 2, 1) := by decide +kernel
theorem dX9_join_10 : decode cX9_join 10 = .ok (.invokevirtual 162, 3) := by decide +kernel
theorem dX9_join_13 : decode cX9_join 13 = .ok (.ifCond .ne 5, 3) := by decide +kernel
theorem dX9_join_16 : decode cX9_join 16 = .ok (.iconst (-1), 1) := by decide +kernel
theorem dX9_join_17 : decode cX9_join 17 = .ok (.ireturn, 1) := by decide +kernel
theorem dX9_join_18 : decode cX9_join 18 = .ok (.iload_n 1, 1) := by decide +kernel
theorem dX9_join_19 : decode cX9_join 19 = .ok (.iload_n 2, 1) := by decide +kernel
theorem dX9_join_20 : decode cX9_join 20 = .ok (.if_icmp .ne 6, 3) := by decide +kernel
theorem dX9_join_23 : decode cX9_join 23 = .ok (.bipush (-2), 2) := by decide +kernel
theorem dX9_join_25 : decode cX9_join 25 = .ok (.ireturn, 1) := by decide +kernel
theorem dX9_join_26 : decode cX9_join 26 = .ok (.aload_n 0, 1) := by decide +kernel
theorem dX9_join_27 : decode cX9_join 27 = .ok (.getfield 76, 3) := by decide +kernel
theorem dX9_join_30 : decode cX9_join 30 = .ok (.aload_n 0, 1) := by decide +kernel
theorem dX9_join_31 : decode cX9_join 31 = .ok (.getfield 46, 3) := by decide +kernel
theorem dX9_join_34 : decode cX9_join 34 = .ok (.invokevirtual 95, 3) := by decide +kernel
theorem dX9_join_37 : decode cX9_join 37 = .ok (.aload_n 0, 1) := by decide +kernel
theorem dX9_join_38 : decode cX9_join 38 = .ok (.getfield 62, 3) := by decide +kernel
theorem dX9_join_41 : decode cX9_join 41 = .ok (.iload_n 1, 1) := by decide +kernel
theorem dX9_join_42 : decode cX9_join 42 = .ok (.iload_n 2, 1) := by decide +kernel
theorem dX9_join_43 : decode cX9_join 43 = .ok (.invokevirtual 192, 3) := by decide +kernel
theorem dX9_join_46 : decode cX9_join 46 = .ok (.ireturn, 1) := by decide +kernel
theorem dX9_joinAlike_0 : decode cX9_joinAlike 0 = .ok (.iload_n 1, 1) := by decide +kernel
theorem dX9_joinAlike_1 : decode cX9_joinAlike 1 = .ok (.invokestatic 138, 3) := by decide +kernel
theorem dX9_joinAlike_4 : decode cX9_joinAlike 4 = .ok (.ifCond .ne 5, 3) := by decide +kernel
theorem dX9_joinAlike_7 : decode cX9_joinAlike 7 = .ok (.iconst (-1), 1) := by decide +kernel
theorem dX9_joinAlike_8 : decode cX9_joinAlike 8 = .ok (.ireturn, 1) := by decide +kernel
theorem dX9_joinAlike_9 : decode cX9_joinAlike 9 = .ok (.aload_n 0, 1) := by decide +kernel
theorem dX9_joinAlike_10 : decode cX9_joinAlike 10 = .ok (.getfield 46, 3) := by decide +kernel
theorem dX9_joinAlike_13 : decode cX9_joinAlike 13 = .ok (.getfield 127, 3) := by decide +kernel
theorem dX9_joinAlike_16 : decode cX9_joinAlike 16 = .ok (.iload_n 1, 1) := by decide +kernel
theorem dX9_joinAlike_17 : decode cX9_joinAlike 17 = .ok (.aaload, 1) := by decide +kernel
theorem dX9_joinAlike_18 : decode cX9_joinAlike 18 = .ok (.astore_n 2, 1) := by decide +kernel
theorem dX9_joinAlike_19 : decode cX9_joinAlike 19 = .ok (.aload_n 0, 1) := by decide +kernel
theorem dX9_joinAlike_20 : decode cX9_joinAlike 20 = .ok (.getfield 62, 3) := by decide +kernel
theorem dX9_joinAlike_23 : decode cX9_joinAlike 23 = .ok (.aload_n 2, 1) := by decide +kernel
theorem dX9_joinAlike_24 : decode cX9_joinAlike 24 = .ok (.iconst 2, 1) := by decide +kernel
theorem dX9_joinAlike_25 : decode cX9_joinAlike 25 = .ok (.invokevirtual 179, 3) := by decide +kernel
theorem dX9_joinAlike_28 : decode cX9_joinAlike 28 = .ok (.ifCond .le 6, 3) := by decide +kernel
theorem dX9_joinAlike_31 : decode cX9_joinAlike 31 = .ok (.bipush (-4), 2) := by decide +kernel
theorem dX9_joinAlike_33 : decode cX9_joinAlike 33 = .ok (.ireturn, 1) := by decide +kernel
theorem dX9_joinAlike_34 : decode cX9_joinAlike 34 = .ok (.aload_n 0, 1) := by decide +kernel
theorem dX9_joinAlike_35 : decode cX9_joinAlike 35 = .ok (.getfield 62, 3) := by decide +kernel
theorem dX9_joinAlike_38 : decode cX9_joinAlike 38 = .ok (.aload_n 2, 1) := by decide +kernel
theorem dX9_joinAlike_39 : decode cX9_joinAlike 39 = .ok (.iconst 0, 1) := by decide +kernel
theorem dX9_joinAlike_40 : decode cX9_joinAlike 40 = .ok (.invokevirtual 179, 3) := by decide +kernel
theorem dX9_joinAlike_43 : decode cX9_joinAlike 43 = .ok (.iconst 2, 1) := by decide +kernel
theorem dX9_joinAlike_44 : decode cX9_joinAlike 44 = .ok (.if_icmp .ge 19, 3) := by decide +kernel
theorem dX9_joinAlike_47 : decode cX9_joinAlike 47 = .ok (.aload_n 0, 1) := by decide +kernel
theorem dX9_joinAlike_48 : decode cX9_joinAlike 48 = .ok (.getfield 62, 3) := by decide +kernel
theorem dX9_joinAlike_51 : decode cX9_joinAlike 51 = .ok (.aload_n 2, 1) := by decide +kernel
theorem dX9_joinAlike_52 : decode cX9_joinAlike 52 = .ok (.iconst 1, 1) := by decide +kernel
theorem dX9_joinAlike_53 : decode cX9_joinAlike 53 = .ok (.invokevirtual 179, 3) := by decide +kernel
theorem dX9_joinAlike_56 : decode cX9_joinAlike 56 = .ok (.iconst 2, 1) := by decide +kernel
theorem dX9_joinAlike_57 : decode cX9_joinAlike 57 = .ok (.if_icmp .ge 6, 3) := by decide +kernel
theorem dX9_joinAlike_60 : decode cX9_joinAlike 60 = .ok (.bipush (-5), 2) := by decide +kernel
theorem dX9_joinAlike_62 : decode cX9_joinAlike 62 = .ok (.ireturn, 1) := by decide +kernel
theorem dX9_joinAlike_63 : decode cX9_joinAlike 63 = .ok (.aload_n 0, 1) := by decide +kernel
theorem dX9_joinAlike_64 : decode cX9_joinAlike 64 = .ok (.getfield 76, 3) := by decide +kernel
theorem dX9_joinAlike_67 : decode cX9_joinAlike 67 = .ok (.aload_n 0, 1) := by decide +kernel
theorem dX9_joinAlike_68 : decode cX9_joinAlike 68 = .ok (.getfield 46, 3) := by decide +kernel
theorem dX9_joinAlike_71 : decode cX9_joinAlike 71 = .ok (.invokevirtual 95, 3) := by decide +kernel
theorem dX9_joinAlike_74 : decode cX9_joinAlike 74 = .ok (.aload_n 0, 1) := by decide +kernel
theorem dX9_joinAlike_75 : decode cX9_joinAlike 75 = .ok (.getfield 62, 3) := by decide +kernel
theorem dX9_joinAlike_78 : decode cX9_joinAlike 78 = .ok (.aload_n 2, 1) := by decide +kernel
theorem dX9_joinAlike_79 : decode cX9_joinAlike 79 = .ok (.invokevirtual 196, 3) := by decide +kernel
theorem dX9_joinAlike_82 : decode cX9_joinAlike 82 = .ok (.aload_n 0, 1) := by decide +kernel
theorem dX9_joinAlike_83 : decode cX9_joinAlike 83 = .ok (.getfield 46, 3) := by decide +kernel
theorem dX9_joinAlike_86 : decode cX9_joinAlike 86 = .ok (.getfield 159, 3) := by decide +kernel
theorem dX9_joinAlike_89 : decode cX9_joinAlike 89 = .ok (.ireturn, 1) := by decide +kernel
theorem dX9_type_0 : decode cX9_type 0 = .ok (.aload_n 0, 1) := by decide +kernel
theorem dX9_type_1 : decode cX9_type 1 = .ok (.getfield 50, 3) := by decide +kernel
theorem dX9_type_4 : decode cX9_type 4 = .ok (.iload_n 1, 1) := by decide +kernel
theorem dX9_type_5 : decode cX9_type 5 = .ok (.invokevirtual 199, 3) := by decide +kernel
theorem dX9_type_8 : decode cX9_type 8 = .ok (.ifCond .eq 13, 3) := by decide +kernel
theorem dX9_type_11 : decode cX9_type 11 = .ok (.aload_n 0, 1) := by decide +kernel
theorem dX9_type_12 : decode cX9_type 12 = .ok (.getfield 50, 3) := by decide +kernel
theorem dX9_type_15 : decode cX9_type 15 = .ok (.getfield 203, 3) := by decide +kernel
theorem dX9_type_18 : decode cX9_type 18 = .ok (.goto 5, 3) := by decide +kernel
theorem dX9_type_21 : decode cX9_type 21 = .ok (.bipush (-3), 2) := by decide +kernel
theorem dX9_type_23 : decode cX9_type 23 = .ok (.ireturn, 1) := by decide +kernel
theorem dX9_clearText_0 : decode cX9_clearText 0 = .ok (.aload_n 0, 1) := by decide +kernel
theorem dX9_clearText_1 : decode cX9_clearText 1 = .ok (.getfield 50, 3) := by decide +kernel
theorem dX9_clearText_4 : decode cX9_clearText 4 = .ok (.getfield 203, 3) := by decide +kernel
theorem dX9_clearText_7 : decode cX9_clearText 7 = .ok (.istore_n 1, 1) := by decide +kernel
theorem dX9_clearText_8 : decode cX9_clearText 8 = .ok (.aload_n 0, 1) := by decide +kernel
theorem dX9_clearText_9 : decode cX9_clearText 9 = .ok (.getfield 50, 3) := by decide +kernel
theorem dX9_clearText_12 : decode cX9_clearText 12 = .ok (.iconst 0, 1) := by decide +kernel
theorem dX9_clearText_13 : decode cX9_clearText 13 = .ok (.putfield 203, 3) := by decide +kernel
theorem dX9_clearText_16 : decode cX9_clearText 16 = .ok (.iload_n 1, 1) := by decide +kernel
theorem dX9_clearText_17 : decode cX9_clearText 17 = .ok (.ireturn, 1) := by decide +kernel
theorem dX9_undo_0 : decode cX9_undo 0 = .ok (.aload_n 0, 1) := by decide +kernel
theorem dX9_undo_1 : decode cX9_undo 1 = .ok (.getfield 76, 3) := by decide +kernel
theorem dX9_undo_4 : decode cX9_undo 4 = .ok (.getfield 206, 3) := by decide +kernel
theorem dX9_undo_7 : decode cX9_undo 7 = .ok (.ifCond .ne 6, 3) := by decide +kernel
theorem dX9_undo_10 : decode cX9_undo 10 = .ok (.bipush (-5), 2) := by decide +kernel
theorem dX9_undo_12 : decode cX9_undo 12 = .ok (.ireturn, 1) := by decide +kernel
theorem dX9_undo_13 : decode cX9_undo 13 = .ok (.aload_n 0, 1) := by decide +kernel
theorem dX9_undo_14 : decode cX9_undo 14 = .ok (.getfield 76, 3) := by decide +kernel
theorem dX9_undo_17 : decode cX9_undo 17 = .ok (.aload_n 0, 1) := by decide +kernel
theorem dX9_undo_18 : decode cX9_undo 18 = .ok (.getfield 46, 3) := by decide +kernel
theorem dX9_undo_21 : decode cX9_undo 21 = .ok (.invokevirtual 207, 3) := by decide +kernel
theorem dX9_undo_24 : decode cX9_undo 24 = .ok (.aload_n 0, 1) := by decide +kernel
theorem dX9_undo_25 : decode cX9_undo 25 = .ok (.getfield 76, 3) := by decide +kernel
theorem dX9_undo_28 : decode cX9_undo 28 = .ok (.getfield 206, 3) := by decide +kernel
theorem dX9_undo_31 : decode cX9_undo 31 = .ok (.ireturn, 1) := by decide +kernel
theorem dX9_keep_0 : decode cX9_keep 0 = .ok (.aload_n 0, 1) := by decide +kernel
theorem dX9_keep_1 : decode cX9_keep 1 = .ok (.getfield 66, 3) := by decide +kernel
theorem dX9_keep_4 : decode cX9_keep 4 = .ok (.aload_n 0, 1) := by decide +kernel
theorem dX9_keep_5 : decode cX9_keep 5 = .ok (.getfield 46, 3) := by decide +kernel
theorem dX9_keep_8 : decode cX9_keep 8 = .ok (.invokevirtual 210, 3) := by decide +kernel
theorem dX9_keep_11 : decode cX9_keep 11 = .ok (.aload_n 0, 1) := by decide +kernel
theorem dX9_keep_12 : decode cX9_keep 12 = .ok (.iconst 1, 1) := by decide +kernel
theorem dX9_keep_13 : decode cX9_keep 13 = .ok (.putfield 69, 3) := by decide +kernel
theorem dX9_keep_16 : decode cX9_keep 16 = .ok (.aload_n 0, 1) := by decide +kernel
theorem dX9_keep_17 : decode cX9_keep 17 = .ok (.getfield 46, 3) := by decide +kernel
theorem dX9_keep_20 : decode cX9_keep 20 = .ok (.getfield 159, 3) := by decide +kernel
theorem dX9_keep_23 : decode cX9_keep 23 = .ok (.ireturn, 1) := by decide +kernel
theorem dX9_restore_0 : decode cX9_restore 0 = .ok (.aload_n 0, 1) := by decide +kernel
theorem dX9_restore_1 : decode cX9_restore 1 = .ok (.getfield 69, 3) := by decide +kernel
theorem dX9_restore_4 : decode cX9_restore 4 = .ok (.ifCond .ne 6, 3) := by decide +kernel
theorem dX9_restore_7 : decode cX9_restore 7 = .ok (.bipush (-5), 2) := by decide +kernel
theorem dX9_restore_9 : decode cX9_restore 9 = .ok (.ireturn, 1) := by decide +kernel
theorem dX9_restore_10 : decode cX9_restore 10 = .ok (.aload_n 0, 1) := by decide +kernel
theorem dX9_restore_11 : decode cX9_restore 11 = .ok (.getfield 76, 3) := by decide +kernel
theorem dX9_restore_14 : decode cX9_restore 14 = .ok (.aload_n 0, 1) := by decide +kernel
theorem dX9_restore_15 : decode cX9_restore 15 = .ok (.getfield 46, 3) := by decide +kernel
theorem dX9_restore_18 : decode cX9_restore 18 = .ok (.invokevirtual 95, 3) := by decide +kernel
theorem dX9_restore_21 : decode cX9_restore 21 = .ok (.aload_n 0, 1) := by decide +kernel
theorem dX9_restore_22 : decode cX9_restore 22 = .ok (.getfield 46, 3) := by decide +kernel
theorem dX9_restore_25 : decode cX9_restore 25 = .ok (.aload_n 0, 1) := by decide +kernel
theorem dX9_restore_26 : decode cX9_restore 26 = .ok (.getfield 66, 3) := by decide +kernel
theorem dX9_restore_29 : decode cX9_restore 29 = .ok (.invokevirtual 210, 3) := by decide +kernel
theorem dX9_restore_32 : decode cX9_restore 32 = .ok (.aload_n 0, 1) := by decide +kernel
theorem dX9_restore_33 : decode cX9_restore 33 = .ok (.getfield 46, 3) := by decide +kernel
theorem dX9_restore_36 : decode cX9_restore 36 = .ok (.getfield 159, 3) := by decide +kernel
theorem dX9_restore_39 : decode cX9_restore 39 = .ok (.ireturn, 1) := by decide +kernel
theorem dX9_modulus_0 : decode cX9_modulus 0 = .ok (.aload_n 0, 1) := by decide +kernel
theorem dX9_modulus_1 : decode cX9_modulus 1 = .ok (.getfield 46, 3) := by decide +kernel
theorem dX9_modulus_4 : decode cX9_modulus 4 = .ok (.getfield 118, 3) := by decide +kernel
theorem dX9_modulus_7 : decode cX9_modulus 7 = .ok (.iload_n 1, 1) := by decide +kernel
theorem dX9_modulus_8 : decode cX9_modulus 8 = .ok (.invokestatic 212, 3) := by decide +kernel
theorem dX9_modulus_11 : decode cX9_modulus 11 = .ok (.ireturn, 1) := by decide +kernel
theorem dX9_number_0 : decode cX9_number 0 = .ok (.iload_n 1, 1) := by decide +kernel
theorem dX9_number_1 : decode cX9_number 1 = .ok (.invokestatic 138, 3) := by decide +kernel
theorem dX9_number_4 : decode cX9_number 4 = .ok (.ifCond .ne 5, 3) := by decide +kernel
theorem dX9_number_7 : decode cX9_number 7 = .ok (.iconst (-1), 1) := by decide +kernel
theorem dX9_number_8 : decode cX9_number 8 = .ok (.ireturn, 1) := by decide +kernel
theorem dX9_number_9 : decode cX9_number 9 = .ok (.aload_n 0, 1) := by decide +kernel
theorem dX9_number_10 : decode cX9_number 10 = .ok (.iload_n 2, 1) := by decide +kernel
theorem dX9_number_11 : decode cX9_number 11 = .ok (.invokevirtual 141, 3) := by decide +kernel
theorem dX9_number_14 : decode cX9_number 14 = .ok (.ifCond .eq 19, 3) := by decide +kernel
theorem dX9_number_17 : decode cX9_number 17 = .ok (.aload_n 0, 1) := by decide +kernel
theorem dX9_number_18 : decode cX9_number 18 = .ok (.getfield 46, 3) := by decide +kernel
theorem dX9_number_21 : decode cX9_number 21 = .ok (.getfield 127, 3) := by decide +kernel
theorem dX9_number_24 : decode cX9_number 24 = .ok (.iload_n 1, 1) := by decide +kernel
theorem dX9_number_25 : decode cX9_number 25 = .ok (.aaload, 1) := by decide +kernel
theorem dX9_number_26 : decode cX9_number 26 = .ok (.iload_n 2, 1) := by decide +kernel
theorem dX9_number_27 : decode cX9_number 27 = .ok (.invokevirtual 144, 3) := by decide +kernel
theorem dX9_number_30 : decode cX9_number 30 = .ok (.goto 5, 3) := by decide +kernel
theorem dX9_number_33 : decode cX9_number 33 = .ok (.bipush (-2), 2) := by decide +kernel
theorem dX9_number_35 : decode cX9_number 35 = .ok (.ireturn, 1) := by decide +kernel
theorem dX9_branch_0 : decode cX9_branch 0 = .ok (.aload_n 0, 1) := by decide +kernel
theorem dX9_branch_1 : decode cX9_branch 1 = .ok (.iload_n 1, 1) := by decide +kernel
theorem dX9_branch_2 : decode cX9_branch 2 = .ok (.invokevirtual 162, 3) := by decide +kernel
theorem dX9_branch_5 : decode cX9_branch 5 = .ok (.ifCond .eq 19, 3) := by decide +kernel
theorem dX9_branch_8 : decode cX9_branch 8 = .ok (.aload_n 0, 1) := by decide +kernel
theorem dX9_branch_9 : decode cX9_branch 9 = .ok (.getfield 46, 3) := by decide +kernel
theorem dX9_branch_12 : decode cX9_branch 12 = .ok (.getfield 165, 3) := by decide +kernel
theorem dX9_branch_15 : decode cX9_branch 15 = .ok (.iload_n 1, 1) := by decide +kernel
theorem dX9_branch_16 : decode cX9_branch 16 = .ok (.aaload, 1) := by decide +kernel
theorem dX9_branch_17 : decode cX9_branch 17 = .ok (.iload_n 2, 1) := by decide +kernel
theorem dX9_branch_18 : decode cX9_branch 18 = .ok (.invokestatic 212, 3) := by decide +kernel
theorem dX9_branch_21 : decode cX9_branch 21 = .ok (.goto 4, 3) := by decide +kernel
theorem dX9_branch_24 : decode cX9_branch 24 = .ok (.iconst (-1), 1) := by decide +kernel
theorem dX9_branch_25 : decode cX9_branch 25 = .ok (.ireturn, 1) := by decide +kernel
theorem dX9_seen_0 : decode cX9_seen 0 = .ok (.iload_n 1, 1) := by decide +kernel
theorem dX9_seen_1 : decode cX9_seen 1 = .ok (.invokestatic 138, 3) := by decide +kernel
theorem dX9_seen_4 : decode cX9_seen 4 = .ok (.ifCond .eq 11, 3) := by decide +kernel
theorem dX9_seen_7 : decode cX9_seen 7 = .ok (.aload_n 0, 1) := by decide +kernel
theorem dX9_seen_8 : decode cX9_seen 8 = .ok (.iload_n 2, 1) := by decide +kernel
theorem dX9_seen_9 : decode cX9_seen 9 = .ok (.invokevirtual 162, 3) := by decide +kernel
theorem dX9_seen_12 : decode cX9_seen 12 = .ok (.ifCond .ne 5, 3) := by decide +kernel
theorem dX9_seen_15 : decode cX9_seen 15 = .ok (.iconst (-1), 1) := by decide +kernel
theorem dX9_seen_16 : decode cX9_seen 16 = .ok (.ireturn, 1) := by decide +kernel
theorem dX9_seen_17 : decode cX9_seen 17 = .ok (.aload_n 0, 1) := by decide +kernel
theorem dX9_seen_18 : decode cX9_seen 18 = .ok (.getfield 46, 3) := by decide +kernel
theorem dX9_seen_21 : decode cX9_seen 21 = .ok (.getfield 165, 3) := by decide +kernel
theorem dX9_seen_24 : decode cX9_seen 24 = .ok (.iload_n 2, 1) := by decide +kernel
theorem dX9_seen_25 : decode cX9_seen 25 = .ok (.aaload, 1) := by decide +kernel
theorem dX9_seen_26 : decode cX9_seen 26 = .ok (.astore 4, 2) := by decide +kernel
theorem dX9_seen_28 : decode cX9_seen 28 = .ok (.iload_n 3, 1) := by decide +kernel
theorem dX9_seen_29 : decode cX9_seen 29 = .ok (.ifCond .lt 12, 3) := by decide +kernel
theorem dX9_seen_32 : decode cX9_seen 32 = .ok (.iload_n 3, 1) := by decide +kernel
theorem dX9_seen_33 : decode cX9_seen 33 = .ok (.aload 4, 2) := by decide +kernel
theorem dX9_seen_35 : decode cX9_seen 35 = .ok (.getfield 135, 3) := by decide +kernel
theorem dX9_seen_38 : decode cX9_seen 38 = .ok (.if_icmp .lt 6, 3) := by decide +kernel
theorem dX9_seen_41 : decode cX9_seen 41 = .ok (.bipush (-2), 2) := by decide +kernel
theorem dX9_seen_43 : decode cX9_seen 43 = .ok (.ireturn, 1) := by decide +kernel
theorem dX9_seen_44 : decode cX9_seen 44 = .ok (.aload_n 0, 1) := by decide +kernel
theorem dX9_seen_45 : decode cX9_seen 45 = .ok (.getfield 83, 3) := by decide +kernel
theorem dX9_seen_48 : decode cX9_seen 48 = .ok (.aload_n 0, 1) := by decide +kernel
theorem dX9_seen_49 : decode cX9_seen 49 = .ok (.getfield 46, 3) := by decide +kernel
theorem dX9_seen_52 : decode cX9_seen 52 = .ok (.getfield 127, 3) := by decide +kernel
theorem dX9_seen_55 : decode cX9_seen 55 = .ok (.iload_n 1, 1) := by decide +kernel
theorem dX9_seen_56 : decode cX9_seen 56 = .ok (.aaload, 1) := by decide +kernel
theorem dX9_seen_57 : decode cX9_seen 57 = .ok (.invokevirtual 176, 3) := by decide +kernel
theorem dX9_seen_60 : decode cX9_seen 60 = .ok (.aload_n 0, 1) := by decide +kernel
theorem dX9_seen_61 : decode cX9_seen 61 = .ok (.getfield 54, 3) := by decide +kernel
theorem dX9_seen_64 : decode cX9_seen 64 = .ok (.aload_n 0, 1) := by decide +kernel
theorem dX9_seen_65 : decode cX9_seen 65 = .ok (.getfield 83, 3) := by decide +kernel
theorem dX9_seen_68 : decode cX9_seen 68 = .ok (.aload 4, 2) := by decide +kernel
theorem dX9_seen_70 : decode cX9_seen 70 = .ok (.invokevirtual 131, 3) := by decide +kernel
theorem dX9_seen_73 : decode cX9_seen 73 = .ok (.aload_n 0, 1) := by decide +kernel
theorem dX9_seen_74 : decode cX9_seen 74 = .ok (.getfield 83, 3) := by decide +kernel
theorem dX9_seen_77 : decode cX9_seen 77 = .ok (.iload_n 3, 1) := by decide +kernel
theorem dX9_seen_78 : decode cX9_seen 78 = .ok (.invokevirtual 144, 3) := by decide +kernel
theorem dX9_seen_81 : decode cX9_seen 81 = .ok (.ireturn, 1) := by decide +kernel
theorem dX9_kind_0 : decode cX9_kind 0 = .ok (.iload_n 1, 1) := by decide +kernel
theorem dX9_kind_1 : decode cX9_kind 1 = .ok (.invokestatic 138, 3) := by decide +kernel
theorem dX9_kind_4 : decode cX9_kind 4 = .ok (.ifCond .eq 11, 3) := by decide +kernel
theorem dX9_kind_7 : decode cX9_kind 7 = .ok (.aload_n 0, 1) := by decide +kernel
theorem dX9_kind_8 : decode cX9_kind 8 = .ok (.iload_n 2, 1) := by decide +kernel
theorem dX9_kind_9 : decode cX9_kind 9 = .ok (.invokevirtual 162, 3) := by decide +kernel
theorem dX9_kind_12 : decode cX9_kind 12 = .ok (.ifCond .ne 5, 3) := by decide +kernel
theorem dX9_kind_15 : decode cX9_kind 15 = .ok (.iconst (-1), 1) := by decide +kernel
theorem dX9_kind_16 : decode cX9_kind 16 = .ok (.ireturn, 1) := by decide +kernel
theorem dX9_kind_17 : decode cX9_kind 17 = .ok (.aload_n 0, 1) := by decide +kernel
theorem dX9_kind_18 : decode cX9_kind 18 = .ok (.getfield 62, 3) := by decide +kernel
theorem dX9_kind_21 : decode cX9_kind 21 = .ok (.aload_n 0, 1) := by decide +kernel
theorem dX9_kind_22 : decode cX9_kind 22 = .ok (.getfield 46, 3) := by decide +kernel
theorem dX9_kind_25 : decode cX9_kind 25 = .ok (.getfield 165, 3) := by decide +kernel
theorem dX9_kind_28 : decode cX9_kind 28 = .ok (.iload_n 2, 1) := by decide +kernel
theorem dX9_kind_29 : decode cX9_kind 29 = .ok (.aaload, 1) := by decide +kernel
theorem dX9_kind_30 : decode cX9_kind 30 = .ok (.aload_n 0, 1) := by decide +kernel
theorem dX9_kind_31 : decode cX9_kind 31 = .ok (.getfield 46, 3) := by decide +kernel
theorem dX9_kind_34 : decode cX9_kind 34 = .ok (.getfield 127, 3) := by decide +kernel
theorem dX9_kind_37 : decode cX9_kind 37 = .ok (.iload_n 1, 1) := by decide +kernel
theorem dX9_kind_38 : decode cX9_kind 38 = .ok (.aaload, 1) := by decide +kernel
theorem dX9_kind_39 : decode cX9_kind 39 = .ok (.invokevirtual 215, 3) := by decide +kernel
theorem dX9_kind_42 : decode cX9_kind 42 = .ok (.ireturn, 1) := by decide +kernel
theorem dX9_unit_0 : decode cX9_unit 0 = .ok (.aload_n 0, 1) := by decide +kernel
theorem dX9_unit_1 : decode cX9_unit 1 = .ok (.iload_n 1, 1) := by decide +kernel
theorem dX9_unit_2 : decode cX9_unit 2 = .ok (.invokevirtual 162, 3) := by decide +kernel
theorem dX9_unit_5 : decode cX9_unit 5 = .ok (.ifCond .ne 5, 3) := by decide +kernel
theorem dX9_unit_8 : decode cX9_unit 8 = .ok (.iconst (-1), 1) := by decide +kernel
theorem dX9_unit_9 : decode cX9_unit 9 = .ok (.ireturn, 1) := by decide +kernel
theorem dX9_unit_10 : decode cX9_unit 10 = .ok (.aload_n 0, 1) := by decide +kernel
theorem dX9_unit_11 : decode cX9_unit 11 = .ok (.iload_n 2, 1) := by decide +kernel
theorem dX9_unit_12 : decode cX9_unit 12 = .ok (.invokevirtual 141, 3) := by decide +kernel
theorem dX9_unit_15 : decode cX9_unit 15 = .ok (.ifCond .ne 6, 3) := by decide +kernel
theorem dX9_unit_18 : decode cX9_unit 18 = .ok (.bipush (-2), 2) := by decide +kernel
theorem dX9_unit_20 : decode cX9_unit 20 = .ok (.ireturn, 1) := by decide +kernel
theorem dX9_unit_21 : decode cX9_unit 21 = .ok (.aload_n 0, 1) := by decide +kernel
theorem dX9_unit_22 : decode cX9_unit 22 = .ok (.getfield 58, 3) := by decide +kernel
theorem dX9_unit_25 : decode cX9_unit 25 = .ok (.aload_n 0, 1) := by decide +kernel
theorem dX9_unit_26 : decode cX9_unit 26 = .ok (.getfield 83, 3) := by decide +kernel
theorem dX9_unit_29 : decode cX9_unit 29 = .ok (.aload_n 0, 1) := by decide +kernel
theorem dX9_unit_30 : decode cX9_unit 30 = .ok (.getfield 46, 3) := by decide +kernel
theorem dX9_unit_33 : decode cX9_unit 33 = .ok (.getfield 165, 3) := by decide +kernel
theorem dX9_unit_36 : decode cX9_unit 36 = .ok (.iload_n 1, 1) := by decide +kernel
theorem dX9_unit_37 : decode cX9_unit 37 = .ok (.aaload, 1) := by decide +kernel
theorem dX9_unit_38 : decode cX9_unit 38 = .ok (.invokevirtual 218, 3) := by decide +kernel
theorem dX9_unit_41 : decode cX9_unit 41 = .ok (.aload_n 0, 1) := by decide +kernel
theorem dX9_unit_42 : decode cX9_unit 42 = .ok (.getfield 83, 3) := by decide +kernel
theorem dX9_unit_45 : decode cX9_unit 45 = .ok (.iload_n 2, 1) := by decide +kernel
theorem dX9_unit_46 : decode cX9_unit 46 = .ok (.invokevirtual 144, 3) := by decide +kernel
theorem dX9_unit_49 : decode cX9_unit 49 = .ok (.ireturn, 1) := by decide +kernel
theorem dX9_power_0 : decode cX9_power 0 = .ok (.iload_n 1, 1) := by decide +kernel
theorem dX9_power_1 : decode cX9_power 1 = .ok (.invokestatic 138, 3) := by decide +kernel
theorem dX9_power_4 : decode cX9_power 4 = .ok (.ifCond .ne 5, 3) := by decide +kernel
theorem dX9_power_7 : decode cX9_power 7 = .ok (.iconst (-1), 1) := by decide +kernel
theorem dX9_power_8 : decode cX9_power 8 = .ok (.ireturn, 1) := by decide +kernel
theorem dX9_power_9 : decode cX9_power 9 = .ok (.iload_n 2, 1) := by decide +kernel
theorem dX9_power_10 : decode cX9_power 10 = .ok (.ifCond .lt 17, 3) := by decide +kernel
theorem dX9_power_13 : decode cX9_power 13 = .ok (.iload_n 2, 1) := by decide +kernel
theorem dX9_power_14 : decode cX9_power 14 = .ok (.ldc 221, 2) := by decide +kernel
theorem dX9_power_16 : decode cX9_power 16 = .ok (.if_icmp .gt 11, 3) := by decide +kernel
theorem dX9_power_19 : decode cX9_power 19 = .ok (.aload_n 0, 1) := by decide +kernel
theorem dX9_power_20 : decode cX9_power 20 = .ok (.iload_n 3, 1) := by decide +kernel
theorem dX9_power_21 : decode cX9_power 21 = .ok (.invokevirtual 141, 3) := by decide +kernel
theorem dX9_power_24 : decode cX9_power 24 = .ok (.ifCond .ne 6, 3) := by decide +kernel
theorem dX9_power_27 : decode cX9_power 27 = .ok (.bipush (-2), 2) := by decide +kernel
theorem dX9_power_29 : decode cX9_power 29 = .ok (.ireturn, 1) := by decide +kernel
theorem dX9_power_30 : decode cX9_power 30 = .ok (.aload_n 0, 1) := by decide +kernel
theorem dX9_power_31 : decode cX9_power 31 = .ok (.getfield 58, 3) := by decide +kernel
theorem dX9_power_34 : decode cX9_power 34 = .ok (.aload_n 0, 1) := by decide +kernel
theorem dX9_power_35 : decode cX9_power 35 = .ok (.getfield 83, 3) := by decide +kernel
theorem dX9_power_38 : decode cX9_power 38 = .ok (.aload_n 0, 1) := by decide +kernel
theorem dX9_power_39 : decode cX9_power 39 = .ok (.getfield 46, 3) := by decide +kernel
theorem dX9_power_42 : decode cX9_power 42 = .ok (.getfield 127, 3) := by decide +kernel
theorem dX9_power_45 : decode cX9_power 45 = .ok (.iload_n 1, 1) := by decide +kernel
theorem dX9_power_46 : decode cX9_power 46 = .ok (.aaload, 1) := by decide +kernel
theorem dX9_power_47 : decode cX9_power 47 = .ok (.iload_n 2, 1) := by decide +kernel
theorem dX9_power_48 : decode cX9_power 48 = .ok (.invokevirtual 222, 3) := by decide +kernel
theorem dX9_power_51 : decode cX9_power 51 = .ok (.aload_n 0, 1) := by decide +kernel
theorem dX9_power_52 : decode cX9_power 52 = .ok (.getfield 83, 3) := by decide +kernel
theorem dX9_power_55 : decode cX9_power 55 = .ok (.iload_n 3, 1) := by decide +kernel
theorem dX9_power_56 : decode cX9_power 56 = .ok (.invokevirtual 144, 3) := by decide +kernel
theorem dX9_power_59 : decode cX9_power 59 = .ok (.ireturn, 1) := by decide +kernel
theorem dX9_leastPolynomial_0 : decode cX9_leastPolynomial 0 = .ok (.iload_n 1, 1) := by decide +kernel
theorem dX9_leastPolynomial_1 : decode cX9_leastPolynomial 1 = .ok (.invokestatic 138, 3) := by decide +kernel
theorem dX9_leastPolynomial_4 : decode cX9_leastPolynomial 4 = .ok (.ifCond .ne 5, 3) := by decide +kernel
theorem dX9_leastPolynomial_7 : decode cX9_leastPolynomial 7 = .ok (.iconst (-1), 1) := by decide +kernel
theorem dX9_leastPolynomial_8 : decode cX9_leastPolynomial 8 = .ok (.ireturn, 1) := by decide +kernel
theorem dX9_leastPolynomial_9 : decode cX9_leastPolynomial 9 = .ok (.iload_n 2, 1) := by decide +kernel
theorem dX9_leastPolynomial_10 : decode cX9_leastPolynomial 10 = .ok (.ifCond .ge 6, 3) := by decide +kernel
theorem dX9_leastPolynomial_13 : decode cX9_leastPolynomial 13 = .ok (.bipush (-2), 2) := by decide +kernel
theorem dX9_leastPolynomial_15 : decode cX9_leastPolynomial 15 = .ok (.ireturn, 1) := by decide +kernel
theorem dX9_leastPolynomial_16 : decode cX9_leastPolynomial 16 = .ok (.aload_n 0, 1) := by decide +kernel
theorem dX9_leastPolynomial_17 : decode cX9_leastPolynomial 17 = .ok (.getfield 58, 3) := by decide +kernel
theorem dX9_leastPolynomial_20 : decode cX9_leastPolynomial 20 = .ok (.aload_n 0, 1) := by decide +kernel
theorem dX9_leastPolynomial_21 : decode cX9_leastPolynomial 21 = .ok (.getfield 83, 3) := by decide +kernel
theorem dX9_leastPolynomial_24 : decode cX9_leastPolynomial 24 = .ok (.aload_n 0, 1) := by decide +kernel
theorem dX9_leastPolynomial_25 : decode cX9_leastPolynomial 25 = .ok (.getfield 46, 3) := by decide +kernel
theorem dX9_leastPolynomial_28 : decode cX9_leastPolynomial 28 = .ok (.getfield 127, 3) := by decide +kernel
theorem dX9_leastPolynomial_31 : decode cX9_leastPolynomial 31 = .ok (.iload_n 1, 1) := by decide +kernel
theorem dX9_leastPolynomial_32 : decode cX9_leastPolynomial 32 = .ok (.aaload, 1) := by decide +kernel
theorem dX9_leastPolynomial_33 : decode cX9_leastPolynomial 33 = .ok (.invokevirtual 226, 3) := by decide +kernel
theorem dX9_leastPolynomial_36 : decode cX9_leastPolynomial 36 = .ok (.aload_n 0, 1) := by decide +kernel
theorem dX9_leastPolynomial_37 : decode cX9_leastPolynomial 37 = .ok (.getfield 83, 3) := by decide +kernel
theorem dX9_leastPolynomial_40 : decode cX9_leastPolynomial 40 = .ok (.iload_n 2, 1) := by decide +kernel
theorem dX9_leastPolynomial_41 : decode cX9_leastPolynomial 41 = .ok (.invokestatic 212, 3) := by decide +kernel
theorem dX9_leastPolynomial_44 : decode cX9_leastPolynomial 44 = .ok (.ireturn, 1) := by decide +kernel
theorem dX9_trace_0 : decode cX9_trace 0 = .ok (.iload_n 1, 1) := by decide +kernel
theorem dX9_trace_1 : decode cX9_trace 1 = .ok (.invokestatic 138, 3) := by decide +kernel
theorem dX9_trace_4 : decode cX9_trace 4 = .ok (.ifCond .eq 22, 3) := by decide +kernel
theorem dX9_trace_7 : decode cX9_trace 7 = .ok (.aload_n 0, 1) := by decide +kernel
theorem dX9_trace_8 : decode cX9_trace 8 = .ok (.getfield 58, 3) := by decide +kernel
theorem dX9_trace_11 : decode cX9_trace 11 = .ok (.aload_n 0, 1) := by decide +kernel
theorem dX9_trace_12 : decode cX9_trace 12 = .ok (.getfield 46, 3) := by decide +kernel
theorem dX9_trace_15 : decode cX9_trace 15 = .ok (.getfield 127, 3) := by decide +kernel
theorem dX9_trace_18 : decode cX9_trace 18 = .ok (.iload_n 1, 1) := by decide +kernel
theorem dX9_trace_19 : decode cX9_trace 19 = .ok (.aaload, 1) := by decide +kernel
theorem dX9_trace_20 : decode cX9_trace 20 = .ok (.invokevirtual 229, 3) := by decide +kernel
theorem dX9_trace_23 : decode cX9_trace 23 = .ok (.goto 4, 3) := by decide +kernel
theorem dX9_trace_26 : decode cX9_trace 26 = .ok (.iconst (-1), 1) := by decide +kernel
theorem dX9_trace_27 : decode cX9_trace 27 = .ok (.ireturn, 1) := by decide +kernel
theorem dX9_order_0 : decode cX9_order 0 = .ok (.iload_n 1, 1) := by decide +kernel
theorem dX9_order_1 : decode cX9_order 1 = .ok (.invokestatic 138, 3) := by decide +kernel
theorem dX9_order_4 : decode cX9_order 4 = .ok (.ifCond .ne 5, 3) := by decide +kernel
theorem dX9_order_7 : decode cX9_order 7 = .ok (.iconst (-1), 1) := by decide +kernel
theorem dX9_order_8 : decode cX9_order 8 = .ok (.ireturn, 1) := by decide +kernel
theorem dX9_order_9 : decode cX9_order 9 = .ok (.aload_n 0, 1) := by decide +kernel
theorem dX9_order_10 : decode cX9_order 10 = .ok (.getfield 46, 3) := by decide +kernel
theorem dX9_order_13 : decode cX9_order 13 = .ok (.getfield 127, 3) := by decide +kernel
theorem dX9_order_16 : decode cX9_order 16 = .ok (.iload_n 1, 1) := by decide +kernel
theorem dX9_order_17 : decode cX9_order 17 = .ok (.aaload, 1) := by decide +kernel
theorem dX9_order_18 : decode cX9_order 18 = .ok (.astore_n 2, 1) := by decide +kernel
theorem dX9_order_19 : decode cX9_order 19 = .ok (.aload_n 0, 1) := by decide +kernel
theorem dX9_order_20 : decode cX9_order 20 = .ok (.getfield 62, 3) := by decide +kernel
theorem dX9_order_23 : decode cX9_order 23 = .ok (.aload_n 0, 1) := by decide +kernel
theorem dX9_order_24 : decode cX9_order 24 = .ok (.getfield 46, 3) := by decide +kernel
theorem dX9_order_27 : decode cX9_order 27 = .ok (.getfield 118, 3) := by decide +kernel
theorem dX9_order_30 : decode cX9_order 30 = .ok (.aload_n 2, 1) := by decide +kernel
theorem dX9_order_31 : decode cX9_order 31 = .ok (.invokevirtual 215, 3) := by decide +kernel
theorem dX9_order_34 : decode cX9_order 34 = .ok (.iconst 1, 1) := by decide +kernel
theorem dX9_order_35 : decode cX9_order 35 = .ok (.if_icmp .eq 6, 3) := by decide +kernel
theorem dX9_order_38 : decode cX9_order 38 = .ok (.bipush (-5), 2) := by decide +kernel
theorem dX9_order_40 : decode cX9_order 40 = .ok (.ireturn, 1) := by decide +kernel
theorem dX9_order_41 : decode cX9_order 41 = .ok (.aload_n 0, 1) := by decide +kernel
theorem dX9_order_42 : decode cX9_order 42 = .ok (.getfield 31, 3) := by decide +kernel
theorem dX9_order_45 : decode cX9_order 45 = .ok (.invokevirtual 186, 3) := by decide +kernel
theorem dX9_order_48 : decode cX9_order 48 = .ok (.aload_n 0, 1) := by decide +kernel
theorem dX9_order_49 : decode cX9_order 49 = .ok (.getfield 58, 3) := by decide +kernel
theorem dX9_order_52 : decode cX9_order 52 = .ok (.aload_n 2, 1) := by decide +kernel
theorem dX9_order_53 : decode cX9_order 53 = .ok (.aload_n 0, 1) := by decide +kernel
theorem dX9_order_54 : decode cX9_order 54 = .ok (.getfield 31, 3) := by decide +kernel
theorem dX9_order_57 : decode cX9_order 57 = .ok (.invokevirtual 233, 3) := by decide +kernel
theorem dX9_order_60 : decode cX9_order 60 = .ok (.invokevirtual 236, 3) := by decide +kernel
theorem dX9_order_63 : decode cX9_order 63 = .ok (.ireturn, 1) := by decide +kernel
theorem dX9_factors_0 : decode cX9_factors 0 = .ok (.iload_n 1, 1) := by decide +kernel
theorem dX9_factors_1 : decode cX9_factors 1 = .ok (.iconst 1, 1) := by decide +kernel
theorem dX9_factors_2 : decode cX9_factors 2 = .ok (.if_icmp .lt 9, 3) := by decide +kernel
theorem dX9_factors_5 : decode cX9_factors 5 = .ok (.iload_n 1, 1) := by decide +kernel
theorem dX9_factors_6 : decode cX9_factors 6 = .ok (.bipush 6, 2) := by decide +kernel
theorem dX9_factors_8 : decode cX9_factors 8 = .ok (.if_icmp .le 6, 3) := by decide +kernel
theorem dX9_factors_11 : decode cX9_factors 11 = .ok (.bipush (-2), 2) := by decide +kernel
theorem dX9_factors_13 : decode cX9_factors 13 = .ok (.ireturn, 1) := by decide +kernel
theorem dX9_factors_14 : decode cX9_factors 14 = .ok (.aload_n 0, 1) := by decide +kernel
theorem dX9_factors_15 : decode cX9_factors 15 = .ok (.getfield 31, 3) := by decide +kernel
theorem dX9_factors_18 : decode cX9_factors 18 = .ok (.invokevirtual 186, 3) := by decide +kernel
theorem dX9_factors_21 : decode cX9_factors 21 = .ok (.aload_n 0, 1) := by decide +kernel
theorem dX9_factors_22 : decode cX9_factors 22 = .ok (.getfield 31, 3) := by decide +kernel
theorem dX9_factors_25 : decode cX9_factors 25 = .ok (.iload_n 1, 1) := by decide +kernel
theorem dX9_factors_26 : decode cX9_factors 26 = .ok (.invokevirtual 239, 3) := by decide +kernel
theorem dX9_factors_29 : decode cX9_factors 29 = .ok (.ireturn, 1) := by decide +kernel
theorem dX9_count_0 : decode cX9_count 0 = .ok (.iload_n 1, 1) := by decide +kernel
theorem dX9_count_1 : decode cX9_count 1 = .ok (.tableswitch 121 0 7 #[47, 55, 66, 74, 89, 97, 105, 113], 47) := by decide +kernel
theorem dX9_count_48 : decode cX9_count 48 = .ok (.aload_n 0, 1) := by decide +kernel
theorem dX9_count_49 : decode cX9_count 49 = .ok (.getfield 46, 3) := by decide +kernel
theorem dX9_count_52 : decode cX9_count 52 = .ok (.getfield 91, 3) := by decide +kernel
theorem dX9_count_55 : decode cX9_count 55 = .ok (.ireturn, 1) := by decide +kernel
theorem dX9_count_56 : decode cX9_count 56 = .ok (.aload_n 0, 1) := by decide +kernel
theorem dX9_count_57 : decode cX9_count 57 = .ok (.getfield 46, 3) := by decide +kernel
theorem dX9_count_60 : decode cX9_count 60 = .ok (.getfield 118, 3) := by decide +kernel
theorem dX9_count_63 : decode cX9_count 63 = .ok (.getfield 135, 3) := by decide +kernel
theorem dX9_count_66 : decode cX9_count 66 = .ok (.ireturn, 1) := by decide +kernel
theorem dX9_count_67 : decode cX9_count 67 = .ok (.aload_n 0, 1) := by decide +kernel
theorem dX9_count_68 : decode cX9_count 68 = .ok (.getfield 46, 3) := by decide +kernel
theorem dX9_count_71 : decode cX9_count 71 = .ok (.getfield 159, 3) := by decide +kernel
theorem dX9_count_74 : decode cX9_count 74 = .ok (.ireturn, 1) := by decide +kernel
theorem dX9_count_75 : decode cX9_count 75 = .ok (.aload_n 0, 1) := by decide +kernel
theorem dX9_count_76 : decode cX9_count 76 = .ok (.getfield 31, 3) := by decide +kernel
theorem dX9_count_79 : decode cX9_count 79 = .ok (.invokevirtual 186, 3) := by decide +kernel
theorem dX9_count_82 : decode cX9_count 82 = .ok (.aload_n 0, 1) := by decide +kernel
theorem dX9_count_83 : decode cX9_count 83 = .ok (.getfield 31, 3) := by decide +kernel
theorem dX9_count_86 : decode cX9_count 86 = .ok (.invokevirtual 242, 3) := by decide +kernel
theorem dX9_count_89 : decode cX9_count 89 = .ok (.ireturn, 1) := by decide +kernel
theorem dX9_count_90 : decode cX9_count 90 = .ok (.aload_n 0, 1) := by decide +kernel
theorem dX9_count_91 : decode cX9_count 91 = .ok (.getfield 46, 3) := by decide +kernel
theorem dX9_count_94 : decode cX9_count 94 = .ok (.invokevirtual 245, 3) := by decide +kernel
theorem dX9_count_97 : decode cX9_count 97 = .ok (.ireturn, 1) := by decide +kernel
theorem dX9_count_98 : decode cX9_count 98 = .ok (.aload_n 0, 1) := by decide +kernel
theorem dX9_count_99 : decode cX9_count 99 = .ok (.getfield 46, 3) := by decide +kernel
theorem dX9_count_102 : decode cX9_count 102 = .ok (.invokevirtual 248, 3) := by decide +kernel
theorem dX9_count_105 : decode cX9_count 105 = .ok (.ireturn, 1) := by decide +kernel
theorem dX9_count_106 : decode cX9_count 106 = .ok (.aload_n 0, 1) := by decide +kernel
theorem dX9_count_107 : decode cX9_count 107 = .ok (.getfield 76, 3) := by decide +kernel
theorem dX9_count_110 : decode cX9_count 110 = .ok (.getfield 206, 3) := by decide +kernel
theorem dX9_count_113 : decode cX9_count 113 = .ok (.ireturn, 1) := by decide +kernel
theorem dX9_count_114 : decode cX9_count 114 = .ok (.aload_n 0, 1) := by decide +kernel
theorem dX9_count_115 : decode cX9_count 115 = .ok (.getfield 50, 3) := by decide +kernel
theorem dX9_count_118 : decode cX9_count 118 = .ok (.getfield 203, 3) := by decide +kernel
theorem dX9_count_121 : decode cX9_count 121 = .ok (.ireturn, 1) := by decide +kernel
theorem dX9_count_122 : decode cX9_count 122 = .ok (.bipush (-2), 2) := by decide +kernel
theorem dX9_count_124 : decode cX9_count 124 = .ok (.ireturn, 1) := by decide +kernel
theorem dX9_isPrime_0 : decode cX9_isPrime 0 = .ok (.iload_n 0, 1) := by decide +kernel
theorem dX9_isPrime_1 : decode cX9_isPrime 1 = .ok (.iconst 2, 1) := by decide +kernel
theorem dX9_isPrime_2 : decode cX9_isPrime 2 = .ok (.if_icmp .eq 31, 3) := by decide +kernel
theorem dX9_isPrime_5 : decode cX9_isPrime 5 = .ok (.iload_n 0, 1) := by decide +kernel
theorem dX9_isPrime_6 : decode cX9_isPrime 6 = .ok (.iconst 3, 1) := by decide +kernel
theorem dX9_isPrime_7 : decode cX9_isPrime 7 = .ok (.if_icmp .eq 26, 3) := by decide +kernel
theorem dX9_isPrime_10 : decode cX9_isPrime 10 = .ok (.iload_n 0, 1) := by decide +kernel
theorem dX9_isPrime_11 : decode cX9_isPrime 11 = .ok (.iconst 5, 1) := by decide +kernel
theorem dX9_isPrime_12 : decode cX9_isPrime 12 = .ok (.if_icmp .eq 21, 3) := by decide +kernel
theorem dX9_isPrime_15 : decode cX9_isPrime 15 = .ok (.iload_n 0, 1) := by decide +kernel
theorem dX9_isPrime_16 : decode cX9_isPrime 16 = .ok (.bipush 7, 2) := by decide +kernel
theorem dX9_isPrime_18 : decode cX9_isPrime 18 = .ok (.if_icmp .eq 15, 3) := by decide +kernel
theorem dX9_isPrime_21 : decode cX9_isPrime 21 = .ok (.iload_n 0, 1) := by decide +kernel
theorem dX9_isPrime_22 : decode cX9_isPrime 22 = .ok (.bipush 11, 2) := by decide +kernel
theorem dX9_isPrime_24 : decode cX9_isPrime 24 = .ok (.if_icmp .eq 9, 3) := by decide +kernel
theorem dX9_isPrime_27 : decode cX9_isPrime 27 = .ok (.iload_n 0, 1) := by decide +kernel
theorem dX9_isPrime_28 : decode cX9_isPrime 28 = .ok (.bipush 13, 2) := by decide +kernel
theorem dX9_isPrime_30 : decode cX9_isPrime 30 = .ok (.if_icmp .ne 7, 3) := by decide +kernel
theorem dX9_isPrime_33 : decode cX9_isPrime 33 = .ok (.iconst 1, 1) := by decide +kernel
theorem dX9_isPrime_34 : decode cX9_isPrime 34 = .ok (.goto 4, 3) := by decide +kernel
theorem dX9_isPrime_37 : decode cX9_isPrime 37 = .ok (.iconst 0, 1) := by decide +kernel
theorem dX9_isPrime_38 : decode cX9_isPrime 38 = .ok (.ireturn, 1) := by decide +kernel
theorem dX9_isRegister_0 : decode cX9_isRegister 0 = .ok (.iload_n 0, 1) := by decide +kernel
theorem dX9_isRegister_1 : decode cX9_isRegister 1 = .ok (.ifCond .lt 13, 3) := by decide +kernel
theorem dX9_isRegister_4 : decode cX9_isRegister 4 = .ok (.iload_n 0, 1) := by decide +kernel
theorem dX9_isRegister_5 : decode cX9_isRegister 5 = .ok (.bipush 6, 2) := by decide +kernel
theorem dX9_isRegister_7 : decode cX9_isRegister 7 = .ok (.if_icmp .ge 7, 3) := by decide +kernel
theorem dX9_isRegister_10 : decode cX9_isRegister 10 = .ok (.iconst 1, 1) := by decide +kernel
theorem dX9_isRegister_11 : decode cX9_isRegister 11 = .ok (.goto 4, 3) := by decide +kernel
theorem dX9_isRegister_14 : decode cX9_isRegister 14 = .ok (.iconst 0, 1) := by decide +kernel
theorem dX9_isRegister_15 : decode cX9_isRegister 15 = .ok (.ireturn, 1) := by decide +kernel
theorem dX9_isBranch_0 : decode cX9_isBranch 0 = .ok (.iload_n 1, 1) := by decide +kernel
theorem dX9_isBranch_1 : decode cX9_isBranch 1 = .ok (.ifCond .lt 18, 3) := by decide +kernel
theorem dX9_isBranch_4 : decode cX9_isBranch 4 = .ok (.iload_n 1, 1) := by decide +kernel
theorem dX9_isBranch_5 : decode cX9_isBranch 5 = .ok (.aload_n 0, 1) := by decide +kernel
theorem dX9_isBranch_6 : decode cX9_isBranch 6 = .ok (.getfield 46, 3) := by decide +kernel
theorem dX9_isBranch_9 : decode cX9_isBranch 9 = .ok (.getfield 159, 3) := by decide +kernel
theorem dX9_isBranch_12 : decode cX9_isBranch 12 = .ok (.if_icmp .ge 7, 3) := by decide +kernel
theorem dX9_isBranch_15 : decode cX9_isBranch 15 = .ok (.iconst 1, 1) := by decide +kernel
theorem dX9_isBranch_16 : decode cX9_isBranch 16 = .ok (.goto 4, 3) := by decide +kernel
theorem dX9_isBranch_19 : decode cX9_isBranch 19 = .ok (.iconst 0, 1) := by decide +kernel
theorem dX9_isBranch_20 : decode cX9_isBranch 20 = .ok (.ireturn, 1) := by decide +kernel
theorem dX9_isPlace_0 : decode cX9_isPlace 0 = .ok (.iload_n 1, 1) := by decide +kernel
theorem dX9_isPlace_1 : decode cX9_isPlace 1 = .ok (.ifCond .lt 21, 3) := by decide +kernel
theorem dX9_isPlace_4 : decode cX9_isPlace 4 = .ok (.iload_n 1, 1) := by decide +kernel
theorem dX9_isPlace_5 : decode cX9_isPlace 5 = .ok (.aload_n 0, 1) := by decide +kernel
theorem dX9_isPlace_6 : decode cX9_isPlace 6 = .ok (.getfield 46, 3) := by decide +kernel
theorem dX9_isPlace_9 : decode cX9_isPlace 9 = .ok (.getfield 118, 3) := by decide +kernel
theorem dX9_isPlace_12 : decode cX9_isPlace 12 = .ok (.getfield 135, 3) := by decide +kernel
theorem dX9_isPlace_15 : decode cX9_isPlace 15 = .ok (.if_icmp .ge 7, 3) := by decide +kernel
theorem dX9_isPlace_18 : decode cX9_isPlace 18 = .ok (.iconst 1, 1) := by decide +kernel
theorem dX9_isPlace_19 : decode cX9_isPlace 19 = .ok (.goto 4, 3) := by decide +kernel
theorem dX9_isPlace_22 : decode cX9_isPlace 22 = .ok (.iconst 0, 1) := by decide +kernel
theorem dX9_isPlace_23 : decode cX9_isPlace 23 = .ok (.ireturn, 1) := by decide +kernel
theorem dX9_isModulusTold_0 : decode cX9_isModulusTold 0 = .ok (.iconst 0, 1) := by decide +kernel
theorem dX9_isModulusTold_1 : decode cX9_isModulusTold 1 = .ok (.istore_n 1, 1) := by decide +kernel
theorem dX9_isModulusTold_2 : decode cX9_isModulusTold 2 = .ok (.iload_n 1, 1) := by decide +kernel
theorem dX9_isModulusTold_3 : decode cX9_isModulusTold 3 = .ok (.aload_n 0, 1) := by decide +kernel
theorem dX9_isModulusTold_4 : decode cX9_isModulusTold 4 = .ok (.getfield 50, 3) := by decide +kernel
theorem dX9_isModulusTold_7 : decode cX9_isModulusTold 7 = .ok (.getfield 251, 3) := by decide +kernel
theorem dX9_isModulusTold_10 : decode cX9_isModulusTold 10 = .ok (.if_icmp .ge 30, 3) := by decide +kernel
theorem dX9_isModulusTold_13 : decode cX9_isModulusTold 13 = .ok (.aload_n 0, 1) := by decide +kernel
theorem dX9_isModulusTold_14 : decode cX9_isModulusTold 14 = .ok (.getfield 50, 3) := by decide +kernel
theorem dX9_isModulusTold_17 : decode cX9_isModulusTold 17 = .ok (.getfield 254, 3) := by decide +kernel
theorem dX9_isModulusTold_20 : decode cX9_isModulusTold 20 = .ok (.iload_n 1, 1) := by decide +kernel
theorem dX9_isModulusTold_21 : decode cX9_isModulusTold 21 = .ok (.iaload, 1) := by decide +kernel
theorem dX9_isModulusTold_22 : decode cX9_isModulusTold 22 = .ok (.aload_n 0, 1) := by decide +kernel
theorem dX9_isModulusTold_23 : decode cX9_isModulusTold 23 = .ok (.getfield 46, 3) := by decide +kernel
theorem dX9_isModulusTold_26 : decode cX9_isModulusTold 26 = .ok (.getfield 91, 3) := by decide +kernel
theorem dX9_isModulusTold_29 : decode cX9_isModulusTold 29 = .ok (.if_icmp .lt 5, 3) := by decide +kernel
theorem dX9_isModulusTold_32 : decode cX9_isModulusTold 32 = .ok (.iconst 0, 1) := by decide +kernel
theorem dX9_isModulusTold_33 : decode cX9_isModulusTold 33 = .ok (.ireturn, 1) := by decide +kernel
theorem dX9_isModulusTold_34 : decode cX9_isModulusTold 34 = .ok (.iinc 1 1, 3) := by decide +kernel
theorem dX9_isModulusTold_37 : decode cX9_isModulusTold 37 = .ok (.goto (-35), 3) := by decide +kernel
theorem dX9_isModulusTold_40 : decode cX9_isModulusTold 40 = .ok (.aload_n 0, 1) := by decide +kernel
theorem dX9_isModulusTold_41 : decode cX9_isModulusTold 41 = .ok (.getfield 50, 3) := by decide +kernel
theorem dX9_isModulusTold_44 : decode cX9_isModulusTold 44 = .ok (.getfield 251, 3) := by decide +kernel
theorem dX9_isModulusTold_47 : decode cX9_isModulusTold 47 = .ok (.iconst 1, 1) := by decide +kernel
theorem dX9_isModulusTold_48 : decode cX9_isModulusTold 48 = .ok (.if_icmp .le 28, 3) := by decide +kernel
theorem dX9_isModulusTold_51 : decode cX9_isModulusTold 51 = .ok (.aload_n 0, 1) := by decide +kernel
theorem dX9_isModulusTold_52 : decode cX9_isModulusTold 52 = .ok (.getfield 50, 3) := by decide +kernel
theorem dX9_isModulusTold_55 : decode cX9_isModulusTold 55 = .ok (.getfield 254, 3) := by decide +kernel
theorem dX9_isModulusTold_58 : decode cX9_isModulusTold 58 = .ok (.aload_n 0, 1) := by decide +kernel
theorem dX9_isModulusTold_59 : decode cX9_isModulusTold 59 = .ok (.getfield 50, 3) := by decide +kernel
theorem dX9_isModulusTold_62 : decode cX9_isModulusTold 62 = .ok (.getfield 251, 3) := by decide +kernel
theorem dX9_isModulusTold_65 : decode cX9_isModulusTold 65 = .ok (.iconst 1, 1) := by decide +kernel
theorem dX9_isModulusTold_66 : decode cX9_isModulusTold 66 = .ok (.isub, 1) := by decide +kernel
theorem dX9_isModulusTold_67 : decode cX9_isModulusTold 67 = .ok (.iaload, 1) := by decide +kernel
theorem dX9_isModulusTold_68 : decode cX9_isModulusTold 68 = .ok (.iconst 1, 1) := by decide +kernel
theorem dX9_isModulusTold_69 : decode cX9_isModulusTold 69 = .ok (.if_icmp .ne 7, 3) := by decide +kernel
theorem dX9_isModulusTold_72 : decode cX9_isModulusTold 72 = .ok (.iconst 1, 1) := by decide +kernel
theorem dX9_isModulusTold_73 : decode cX9_isModulusTold 73 = .ok (.goto 4, 3) := by decide +kernel
theorem dX9_isModulusTold_76 : decode cX9_isModulusTold 76 = .ok (.iconst 0, 1) := by decide +kernel
theorem dX9_isModulusTold_77 : decode cX9_isModulusTold 77 = .ok (.ireturn, 1) := by decide +kernel
theorem dX9_coefficientTold_0 : decode cX9_coefficientTold 0 = .ok (.iload_n 1, 1) := by decide +kernel
theorem dX9_coefficientTold_1 : decode cX9_coefficientTold 1 = .ok (.ifCond .ge 6, 3) := by decide +kernel
theorem dX9_coefficientTold_4 : decode cX9_coefficientTold 4 = .ok (.bipush (-2), 2) := by decide +kernel
theorem dX9_coefficientTold_6 : decode cX9_coefficientTold 6 = .ok (.ireturn, 1) := by decide +kernel
theorem dX9_coefficientTold_7 : decode cX9_coefficientTold 7 = .ok (.iload_n 1, 1) := by decide +kernel
theorem dX9_coefficientTold_8 : decode cX9_coefficientTold 8 = .ok (.aload_n 0, 1) := by decide +kernel
theorem dX9_coefficientTold_9 : decode cX9_coefficientTold 9 = .ok (.getfield 135, 3) := by decide +kernel
theorem dX9_coefficientTold_12 : decode cX9_coefficientTold 12 = .ok (.if_icmp .le 8, 3) := by decide +kernel
theorem dX9_coefficientTold_15 : decode cX9_coefficientTold 15 = .ok (.bipush (-5), 2) := by decide +kernel
theorem dX9_coefficientTold_17 : decode cX9_coefficientTold 17 = .ok (.goto 8, 3) := by decide +kernel
theorem dX9_coefficientTold_20 : decode cX9_coefficientTold 20 = .ok (.aload_n 0, 1) := by decide +kernel
theorem dX9_coefficientTold_21 : decode cX9_coefficientTold 21 = .ok (.iload_n 1, 1) := by decide +kernel
theorem dX9_coefficientTold_22 : decode cX9_coefficientTold 22 = .ok (.invokevirtual 144, 3) := by decide +kernel
theorem dX9_coefficientTold_25 : decode cX9_coefficientTold 25 = .ok (.ireturn, 1) := by decide +kernel
theorem dX10_init_0 : decode cX10_init 0 = .ok (.aload_n 0, 1) := by decide +kernel
theorem dX10_init_1 : decode cX10_init 1 = .ok (.invokespecial 1, 3) := by decide +kernel
theorem dX10_init_4 : decode cX10_init 4 = .ok (.aload_n 0, 1) := by decide +kernel
theorem dX10_init_5 : decode cX10_init 5 = .ok (.bipush 87, 2) := by decide +kernel
theorem dX10_init_7 : decode cX10_init 7 = .ok (.newarray .int, 2) := by decide +kernel
theorem dX10_init_9 : decode cX10_init 9 = .ok (.putfield 7, 3) := by decide +kernel
theorem dX10_init_12 : decode cX10_init 12 = .ok (.aload_n 0, 1) := by decide +kernel
theorem dX10_init_13 : decode cX10_init 13 = .ok (.sipush 348, 3) := by decide +kernel
theorem dX10_init_16 : decode cX10_init 16 = .ok (.newarray .int, 2) := by decide +kernel
theorem dX10_init_18 : decode cX10_init 18 = .ok (.putfield 13, 3) := by decide +kernel
theorem dX10_init_21 : decode cX10_init 21 = .ok (.aload_n 0, 1) := by decide +kernel
theorem dX10_init_22 : decode cX10_init 22 = .ok (.bipush 87, 2) := by decide +kernel
theorem dX10_init_24 : decode cX10_init 24 = .ok (.newarray .int, 2) := by decide +kernel
theorem dX10_init_26 : decode cX10_init 26 = .ok (.putfield 16, 3) := by decide +kernel
theorem dX10_init_29 : decode cX10_init 29 = .ok (.aload_n 0, 1) := by decide +kernel
theorem dX10_init_30 : decode cX10_init 30 = .ok (.sipush 840, 3) := by decide +kernel
theorem dX10_init_33 : decode cX10_init 33 = .ok (.newarray .int, 2) := by decide +kernel
theorem dX10_init_35 : decode cX10_init 35 = .ok (.putfield 19, 3) := by decide +kernel
theorem dX10_init_38 : decode cX10_init 38 = .ok (.aload_n 0, 1) := by decide +kernel
theorem dX10_init_39 : decode cX10_init 39 = .ok (.bipush 14, 2) := by decide +kernel
theorem dX10_init_41 : decode cX10_init 41 = .ok (.newarray .int, 2) := by decide +kernel
theorem dX10_init_43 : decode cX10_init 43 = .ok (.putfield 22, 3) := by decide +kernel
theorem dX10_init_46 : decode cX10_init 46 = .ok (.aload_n 0, 1) := by decide +kernel
theorem dX10_init_47 : decode cX10_init 47 = .ok (.bipush 87, 2) := by decide +kernel
theorem dX10_init_49 : decode cX10_init 49 = .ok (.newarray .int, 2) := by decide +kernel
theorem dX10_init_51 : decode cX10_init 51 = .ok (.putfield 25, 3) := by decide +kernel
theorem dX10_init_54 : decode cX10_init 54 = .ok (.aload_n 0, 1) := by decide +kernel
theorem dX10_init_55 : decode cX10_init 55 = .ok (.bipush 60, 2) := by decide +kernel
theorem dX10_init_57 : decode cX10_init 57 = .ok (.newarray .char, 2) := by decide +kernel
theorem dX10_init_59 : decode cX10_init 59 = .ok (.putfield 28, 3) := by decide +kernel
theorem dX10_init_62 : decode cX10_init 62 = .ok (.aload_n 0, 1) := by decide +kernel
theorem dX10_init_63 : decode cX10_init 63 = .ok (.bipush 7, 2) := by decide +kernel
theorem dX10_init_65 : decode cX10_init 65 = .ok (.newarray .int, 2) := by decide +kernel
theorem dX10_init_67 : decode cX10_init 67 = .ok (.putfield 32, 3) := by decide +kernel
theorem dX10_init_70 : decode cX10_init 70 = .ok (.aload_n 0, 1) := by decide +kernel
theorem dX10_init_71 : decode cX10_init 71 = .ok (.bipush 6, 2) := by decide +kernel
theorem dX10_init_73 : decode cX10_init 73 = .ok (.newarray .int, 2) := by decide +kernel
theorem dX10_init_75 : decode cX10_init 75 = .ok (.putfield 35, 3) := by decide +kernel
theorem dX10_init_78 : decode cX10_init 78 = .ok (.aload_n 0, 1) := by decide +kernel
theorem dX10_init_79 : decode cX10_init 79 = .ok (.bipush 6, 2) := by decide +kernel
theorem dX10_init_81 : decode cX10_init 81 = .ok (.newarray .int, 2) := by decide +kernel
theorem dX10_init_83 : decode cX10_init 83 = .ok (.putfield 38, 3) := by decide +kernel
theorem dX10_init_86 : decode cX10_init 86 = .ok (.aload_n 0, 1) := by decide +kernel
theorem dX10_init_87 : decode cX10_init 87 = .ok (.bipush 7, 2) := by decide +kernel
theorem dX10_init_89 : decode cX10_init 89 = .ok (.newarray .int, 2) := by decide +kernel
theorem dX10_init_91 : decode cX10_init 91 = .ok (.putfield 41, 3) := by decide +kernel
theorem dX10_init_94 : decode cX10_init 94 = .ok (.aload_n 0, 1) := by decide +kernel
theorem dX10_init_95 : decode cX10_init 95 = .ok (.getfield 7, 3) := by decide +kernel
theorem dX10_init_98 : decode cX10_init 98 = .ok (.iconst 0, 1) := by decide +kernel
theorem dX10_init_99 : decode cX10_init 99 = .ok (.iconst 5, 1) := by decide +kernel
theorem dX10_init_100 : decode cX10_init 100 = .ok (.iastore, 1) := by decide +kernel
theorem dX10_init_101 : decode cX10_init 101 = .ok (.aload_n 0, 1) := by decide +kernel
theorem dX10_init_102 : decode cX10_init 102 = .ok (.invokevirtual 44, 3) := by decide +kernel
theorem dX10_init_105 : decode cX10_init 105 = .ok (.return_, 1) := by decide +kernel
theorem dX10_resets_0 : decode cX10_resets 0 = .ok (.iconst 1, 1) := by decide +kernel
theorem dX10_resets_1 : decode cX10_resets 1 = .ok (.istore_n 1, 1) := by decide +kernel
theorem dX10_resets_2 : decode cX10_resets 2 = .ok (.iload_n 1, 1) := by decide +kernel
theorem dX10_resets_3 : decode cX10_resets 3 = .ok (.bipush 87, 2) := by decide +kernel
theorem dX10_resets_5 : decode cX10_resets 5 = .ok (.if_icmp .ge 16, 3) := by decide +kernel
theorem dX10_resets_8 : decode cX10_resets 8 = .ok (.aload_n 0, 1) := by decide +kernel
theorem dX10_resets_9 : decode cX10_resets 9 = .ok (.getfield 7, 3) := by decide +kernel
theorem dX10_resets_12 : decode cX10_resets 12 = .ok (.iload_n 1, 1) := by decide +kernel
theorem dX10_resets_13 : decode cX10_resets 13 = .ok (.iconst 0, 1) := by decide +kernel
theorem dX10_resets_14 : decode cX10_resets 14 = .ok (.iastore, 1) := by decide +kernel
theorem dX10_resets_15 : decode cX10_resets 15 = .ok (.iinc 1 1, 3) := by decide +kernel
theorem dX10_resets_18 : decode cX10_resets 18 = .ok (.goto (-16), 3) := by decide +kernel
theorem dX10_resets_21 : decode cX10_resets 21 = .ok (.aload_n 0, 1) := by decide +kernel
theorem dX10_resets_22 : decode cX10_resets 22 = .ok (.getfield 7, 3) := by decide +kernel
theorem dX10_resets_25 : decode cX10_resets 25 = .ok (.iconst 2, 1) := by decide +kernel
theorem dX10_resets_26 : decode cX10_resets 26 = .ok (.iconst 1, 1) := by decide +kernel
theorem dX10_resets_27 : decode cX10_resets 27 = .ok (.iastore, 1) := by decide +kernel
theorem dX10_resets_28 : decode cX10_resets 28 = .ok (.aload_n 0, 1) := by decide +kernel
theorem dX10_resets_29 : decode cX10_resets 29 = .ok (.getfield 7, 3) := by decide +kernel
theorem dX10_resets_32 : decode cX10_resets 32 = .ok (.bipush 44, 2) := by decide +kernel
theorem dX10_resets_34 : decode cX10_resets 34 = .ok (.iconst 1, 1) := by decide +kernel
theorem dX10_resets_35 : decode cX10_resets 35 = .ok (.iastore, 1) := by decide +kernel
theorem dX10_resets_36 : decode cX10_resets 36 = .ok (.aload_n 0, 1) := by decide +kernel
theorem dX10_resets_37 : decode cX10_resets 37 = .ok (.getfield 7, 3) := by decide +kernel
theorem dX10_resets_40 : decode cX10_resets 40 = .ok (.bipush 46, 2) := by decide +kernel
theorem dX10_resets_42 : decode cX10_resets 42 = .ok (.iconst 1, 1) := by decide +kernel
theorem dX10_resets_43 : decode cX10_resets 43 = .ok (.iastore, 1) := by decide +kernel
theorem dX10_resets_44 : decode cX10_resets 44 = .ok (.return_, 1) := by decide +kernel
theorem dX10_in_0 : decode cX10_in 0 = .ok (.iload_n 0, 1) := by decide +kernel
theorem dX10_in_1 : decode cX10_in 1 = .ok (.iload_n 1, 1) := by decide +kernel
theorem dX10_in_2 : decode cX10_in 2 = .ok (.if_icmp .lt 12, 3) := by decide +kernel
theorem dX10_in_5 : decode cX10_in 5 = .ok (.iload_n 0, 1) := by decide +kernel
theorem dX10_in_6 : decode cX10_in 6 = .ok (.iload_n 2, 1) := by decide +kernel
theorem dX10_in_7 : decode cX10_in 7 = .ok (.if_icmp .gt 7, 3) := by decide +kernel
theorem dX10_in_10 : decode cX10_in 10 = .ok (.iconst 1, 1) := by decide +kernel
theorem dX10_in_11 : decode cX10_in 11 = .ok (.goto 4, 3) := by decide +kernel
theorem dX10_in_14 : decode cX10_in 14 = .ok (.iconst 0, 1) := by decide +kernel
theorem dX10_in_15 : decode cX10_in 15 = .ok (.ireturn, 1) := by decide +kernel
theorem dX10_noRegister_0 : decode cX10_noRegister 0 = .ok (.iload_n 0, 1) := by decide +kernel
theorem dX10_noRegister_1 : decode cX10_noRegister 1 = .ok (.iconst 0, 1) := by decide +kernel
theorem dX10_noRegister_2 : decode cX10_noRegister 2 = .ok (.iconst 5, 1) := by decide +kernel
theorem dX10_noRegister_3 : decode cX10_noRegister 3 = .ok (.invokestatic 47, 3) := by decide +kernel
theorem dX10_noRegister_6 : decode cX10_noRegister 6 = .ok (.ifCond .ne 7, 3) := by decide +kernel
theorem dX10_noRegister_9 : decode cX10_noRegister 9 = .ok (.iconst 1, 1) := by decide +kernel
theorem dX10_noRegister_10 : decode cX10_noRegister 10 = .ok (.goto 4, 3) := by decide +kernel
theorem dX10_noRegister_13 : decode cX10_noRegister 13 = .ok (.iconst 0, 1) := by decide +kernel
theorem dX10_noRegister_14 : decode cX10_noRegister 14 = .ok (.ireturn, 1) := by decide +kernel
theorem dX10_noBranch_0 : decode cX10_noBranch 0 = .ok (.iload_n 1, 1) := by decide +kernel
theorem dX10_noBranch_1 : decode cX10_noBranch 1 = .ok (.iconst 0, 1) := by decide +kernel
theorem dX10_noBranch_2 : decode cX10_noBranch 2 = .ok (.aload_n 0, 1) := by decide +kernel
theorem dX10_noBranch_3 : decode cX10_noBranch 3 = .ok (.getfield 7, 3) := by decide +kernel
theorem dX10_noBranch_6 : decode cX10_noBranch 6 = .ok (.bipush 44, 2) := by decide +kernel
theorem dX10_noBranch_8 : decode cX10_noBranch 8 = .ok (.iaload, 1) := by decide +kernel
theorem dX10_noBranch_9 : decode cX10_noBranch 9 = .ok (.iconst 1, 1) := by decide +kernel
theorem dX10_noBranch_10 : decode cX10_noBranch 10 = .ok (.isub, 1) := by decide +kernel
theorem dX10_noBranch_11 : decode cX10_noBranch 11 = .ok (.invokestatic 47, 3) := by decide +kernel
theorem dX10_noBranch_14 : decode cX10_noBranch 14 = .ok (.ifCond .ne 7, 3) := by decide +kernel
theorem dX10_noBranch_17 : decode cX10_noBranch 17 = .ok (.iconst 1, 1) := by decide +kernel
theorem dX10_noBranch_18 : decode cX10_noBranch 18 = .ok (.goto 4, 3) := by decide +kernel
theorem dX10_noBranch_21 : decode cX10_noBranch 21 = .ok (.iconst 0, 1) := by decide +kernel
theorem dX10_noBranch_22 : decode cX10_noBranch 22 = .ok (.ireturn, 1) := by decide +kernel
theorem dX10_record_0 : decode cX10_record 0 = .ok (.aload_n 0, 1) := by decide +kernel
theorem dX10_record_1 : decode cX10_record 1 = .ok (.getfield 51, 3) := by decide +kernel
theorem dX10_record_4 : decode cX10_record 4 = .ok (.iconst 4, 1) := by decide +kernel
theorem dX10_record_5 : decode cX10_record 5 = .ok (.if_icmp .ne 43, 3) := by decide +kernel
theorem dX10_record_8 : decode cX10_record 8 = .ok (.iconst 0, 1) := by decide +kernel
theorem dX10_record_9 : decode cX10_record 9 = .ok (.istore_n 1, 1) := by decide +kernel
theorem dX10_record_10 : decode cX10_record 10 = .ok (.iload_n 1, 1) := by decide +kernel
theorem dX10_record_11 : decode cX10_record 11 = .ok (.sipush 261, 3) := by decide +kernel
theorem dX10_record_14 : decode cX10_record 14 = .ok (.if_icmp .ge 24, 3) := by decide +kernel
theorem dX10_record_17 : decode cX10_record 17 = .ok (.aload_n 0, 1) := by decide +kernel
theorem dX10_record_18 : decode cX10_record 18 = .ok (.getfield 13, 3) := by decide +kernel
theorem dX10_record_21 : decode cX10_record 21 = .ok (.iload_n 1, 1) := by decide +kernel
theorem dX10_record_22 : decode cX10_record 22 = .ok (.aload_n 0, 1) := by decide +kernel
theorem dX10_record_23 : decode cX10_record 23 = .ok (.getfield 13, 3) := by decide +kernel
theorem dX10_record_26 : decode cX10_record 26 = .ok (.iload_n 1, 1) := by decide +kernel
theorem dX10_record_27 : decode cX10_record 27 = .ok (.bipush 87, 2) := by decide +kernel
theorem dX10_record_29 : decode cX10_record 29 = .ok (.iadd, 1) := by decide +kernel
theorem dX10_record_30 : decode cX10_record 30 = .ok (.iaload, 1) := by decide +kernel
theorem dX10_record_31 : decode cX10_record 31 = .ok (.iastore, 1) := by decide +kernel
theorem dX10_record_32 : decode cX10_record 32 = .ok (.iinc 1 1, 3) := by decide +kernel
theorem dX10_record_35 : decode cX10_record 35 = .ok (.goto (-25), 3) := by decide +kernel
theorem dX10_record_38 : decode cX10_record 38 = .ok (.aload_n 0, 1) := by decide +kernel
theorem dX10_record_39 : decode cX10_record 39 = .ok (.dup, 1) := by decide +kernel
theorem dX10_record_40 : decode cX10_record 40 = .ok (.getfield 51, 3) := by decide +kernel
theorem dX10_record_43 : decode cX10_record 43 = .ok (.iconst 1, 1) := by decide +kernel
theorem dX10_record_44 : decode cX10_record 44 = .ok (.isub, 1) := by decide +kernel
theorem dX10_record_45 : decode cX10_record 45 = .ok (.putfield 51, 3) := by decide +kernel
theorem dX10_record_48 : decode cX10_record 48 = .ok (.iconst 0, 1) := by decide +kernel
theorem dX10_record_49 : decode cX10_record 49 = .ok (.istore_n 1, 1) := by decide +kernel
theorem dX10_record_50 : decode cX10_record 50 = .ok (.iload_n 1, 1) := by decide +kernel
theorem dX10_record_51 : decode cX10_record 51 = .ok (.bipush 87, 2) := by decide +kernel
theorem dX10_record_53 : decode cX10_record 53 = .ok (.if_icmp .ge 29, 3) := by decide +kernel
theorem dX10_record_56 : decode cX10_record 56 = .ok (.aload_n 0, 1) := by decide +kernel
theorem dX10_record_57 : decode cX10_record 57 = .ok (.getfield 13, 3) := by decide +kernel
theorem dX10_record_60 : decode cX10_record 60 = .ok (.bipush 87, 2) := by decide +kernel
theorem dX10_record_62 : decode cX10_record 62 = .ok (.aload_n 0, 1) := by decide +kernel
theorem dX10_record_63 : decode cX10_record 63 = .ok (.getfield 51, 3) := by decide +kernel
theorem dX10_record_66 : decode cX10_record 66 = .ok (.imul, 1) := by decide +kernel
theorem dX10_record_67 : decode cX10_record 67 = .ok (.iload_n 1, 1) := by decide +kernel
theorem dX10_record_68 : decode cX10_record 68 = .ok (.iadd, 1) := by decide +kernel
theorem dX10_record_69 : decode cX10_record 69 = .ok (.aload_n 0, 1) := by decide +kernel
theorem dX10_record_70 : decode cX10_record 70 = .ok (.getfield 7, 3) := by decide +kernel
theorem dX10_record_73 : decode cX10_record 73 = .ok (.iload_n 1, 1) := by decide +kernel
theorem dX10_record_74 : decode cX10_record 74 = .ok (.iaload, 1) := by decide +kernel
theorem dX10_record_75 : decode cX10_record 75 = .ok (.iastore, 1) := by decide +kernel
theorem dX10_record_76 : decode cX10_record 76 = .ok (.iinc 1 1, 3) := by decide +kernel
theorem dX10_record_79 : decode cX10_record 79 = .ok (.goto (-29), 3) := by decide +kernel
theorem dX10_record_82 : decode cX10_record 82 = .ok (.aload_n 0, 1) := by decide +kernel
theorem dX10_record_83 : decode cX10_record 83 = .ok (.dup, 1) := by decide +kernel
theorem dX10_record_84 : decode cX10_record 84 = .ok (.getfield 51, 3) := by decide +kernel
theorem dX10_record_87 : decode cX10_record 87 = .ok (.iconst 1, 1) := by decide +kernel
theorem dX10_record_88 : decode cX10_record 88 = .ok (.iadd, 1) := by decide +kernel
theorem dX10_record_89 : decode cX10_record 89 = .ok (.putfield 51, 3) := by decide +kernel
theorem dX10_record_92 : decode cX10_record 92 = .ok (.return_, 1) := by decide +kernel
theorem dX10_of_0 : decode cX10_of 0 = .ok (.aload_n 0, 1) := by decide +kernel
theorem dX10_of_1 : decode cX10_of 1 = .ok (.getfield 19, 3) := by decide +kernel
theorem dX10_of_4 : decode cX10_of 4 = .ok (.bipush 14, 2) := by decide +kernel
theorem dX10_of_6 : decode cX10_of 6 = .ok (.iload_n 1, 1) := by decide +kernel
theorem dX10_of_7 : decode cX10_of 7 = .ok (.imul, 1) := by decide +kernel
theorem dX10_of_8 : decode cX10_of 8 = .ok (.iload_n 2, 1) := by decide +kernel
theorem dX10_of_9 : decode cX10_of 9 = .ok (.iadd, 1) := by decide +kernel
theorem dX10_of_10 : decode cX10_of 10 = .ok (.iaload, 1) := by decide +kernel
theorem dX10_of_11 : decode cX10_of 11 = .ok (.ireturn, 1) := by decide +kernel
theorem dX10_puts_0 : decode cX10_puts 0 = .ok (.aload_n 0, 1) := by decide +kernel
theorem dX10_puts_1 : decode cX10_puts 1 = .ok (.getfield 19, 3) := by decide +kernel
theorem dX10_puts_4 : decode cX10_puts 4 = .ok (.bipush 14, 2) := by decide +kernel
theorem dX10_puts_6 : decode cX10_puts 6 = .ok (.iload_n 1, 1) := by decide +kernel
theorem dX10_puts_7 : decode cX10_puts 7 = .ok (.imul, 1) := by decide +kernel
theorem dX10_puts_8 : decode cX10_puts 8 = .ok (.iload_n 2, 1) := by decide +kernel
theorem dX10_puts_9 : decode cX10_puts 9 = .ok (.iadd, 1) := by decide +kernel
theorem dX10_puts_10 : decode cX10_puts 10 = .ok (.iload_n 3, 1) := by decide +kernel
theorem dX10_puts_11 : decode cX10_puts 11 = .ok (.iastore, 1) := by decide +kernel
theorem dX10_puts_12 : decode cX10_puts 12 = .ok (.return_, 1) := by decide +kernel
theorem dX10_degree_0 : decode cX10_degree 0 = .ok (.bipush 13, 2) := by decide +kernel
theorem dX10_degree_2 : decode cX10_degree 2 = .ok (.istore_n 2, 1) := by decide +kernel
theorem dX10_degree_3 : decode cX10_degree 3 = .ok (.iload_n 2, 1) := by decide +kernel
theorem dX10_degree_4 : decode cX10_degree 4 = .ok (.ifCond .lt 18, 3) := by decide +kernel
theorem dX10_degree_7 : decode cX10_degree 7 = .ok (.aload_n 0, 1) := by decide +kernel
theorem dX10_degree_8 : decode cX10_degree 8 = .ok (.iload_n 1, 1) := by decide +kernel
theorem dX10_degree_9 : decode cX10_degree 9 = .ok (.iload_n 2, 1) := by decide +kernel
theorem dX10_degree_10 : decode cX10_degree 10 = .ok (.invokevirtual 55, 3) := by decide +kernel
theorem dX10_degree_13 : decode cX10_degree 13 = .ok (.ifCond .ne 9, 3) := by decide +kernel
theorem dX10_degree_16 : decode cX10_degree 16 = .ok (.iinc 2 (-1), 3) := by decide +kernel
theorem dX10_degree_19 : decode cX10_degree 19 = .ok (.goto (-16), 3) := by decide +kernel
theorem dX10_degree_22 : decode cX10_degree 22 = .ok (.iload_n 2, 1) := by decide +kernel
theorem dX10_degree_23 : decode cX10_degree 23 = .ok (.ireturn, 1) := by decide +kernel
theorem dX10_clears_0 : decode cX10_clears 0 = .ok (.iconst 0, 1) := by decide +kernel
theorem dX10_clears_1 : decode cX10_clears 1 = .ok (.istore_n 2, 1) := by decide +kernel
theorem dX10_clears_2 : decode cX10_clears 2 = .ok (.iload_n 2, 1) := by decide +kernel
theorem dX10_clears_3 : decode cX10_clears 3 = .ok (.bipush 14, 2) := by decide +kernel
theorem dX10_clears_5 : decode cX10_clears 5 = .ok (.if_icmp .ge 16, 3) := by decide +kernel
theorem dX10_clears_8 : decode cX10_clears 8 = .ok (.aload_n 0, 1) := by decide +kernel
theorem dX10_clears_9 : decode cX10_clears 9 = .ok (.iload_n 1, 1) := by decide +kernel
theorem dX10_clears_10 : decode cX10_clears 10 = .ok (.iload_n 2, 1) := by decide +kernel
theorem dX10_clears_11 : decode cX10_clears 11 = .ok (.iconst 0, 1) := by decide +kernel
theorem dX10_clears_12 : decode cX10_clears 12 = .ok (.invokevirtual 59, 3) := by decide +kernel
theorem dX10_clears_15 : decode cX10_clears 15 = .ok (.iinc 2 1, 3) := by decide +kernel
theorem dX10_clears_18 : decode cX10_clears 18 = .ok (.goto (-16), 3) := by decide +kernel
theorem dX10_clears_21 : decode cX10_clears 21 = .ok (.return_, 1) := by decide +kernel
theorem dX10_copies_0 : decode cX10_copies 0 = .ok (.iconst 0, 1) := by decide +kernel
theorem dX10_copies_1 : decode cX10_copies 1 = .ok (.istore_n 3, 1) := by decide +kernel
theorem dX10_copies_2 : decode cX10_copies 2 = .ok (.iload_n 3, 1) := by decide +kernel
theorem dX10_copies_3 : decode cX10_copies 3 = .ok (.bipush 14, 2) := by decide +kernel
theorem dX10_copies_5 : decode cX10_copies 5 = .ok (.if_icmp .ge 21, 3) := by decide +kernel
theorem dX10_copies_8 : decode cX10_copies 8 = .ok (.aload_n 0, 1) := by decide +kernel
theorem dX10_copies_9 : decode cX10_copies 9 = .ok (.iload_n 2, 1) := by decide +kernel
theorem dX10_copies_10 : decode cX10_copies 10 = .ok (.iload_n 3, 1) := by decide +kernel
theorem dX10_copies_11 : decode cX10_copies 11 = .ok (.aload_n 0, 1) := by decide +kernel
theorem dX10_copies_12 : decode cX10_copies 12 = .ok (.iload_n 1, 1) := by decide +kernel
theorem dX10_copies_13 : decode cX10_copies 13 = .ok (.iload_n 3, 1) := by decide +kernel
theorem dX10_copies_14 : decode cX10_copies 14 = .ok (.invokevirtual 55, 3) := by decide +kernel
theorem dX10_copies_17 : decode cX10_copies 17 = .ok (.invokevirtual 59, 3) := by decide +kernel
theorem dX10_copies_20 : decode cX10_copies 20 = .ok (.iinc 3 1, 3) := by decide +kernel
theorem dX10_copies_23 : decode cX10_copies 23 = .ok (.goto (-21), 3) := by decide +kernel
theorem dX10_copies_26 : decode cX10_copies 26 = .ok (.return_, 1) := by decide +kernel
theorem dX10_constant_0 : decode cX10_constant 0 = .ok (.aload_n 0, 1) := by decide +kernel
theorem dX10_constant_1 : decode cX10_constant 1 = .ok (.iload_n 1, 1) := by decide +kernel
theorem dX10_constant_2 : decode cX10_constant 2 = .ok (.invokevirtual 63, 3) := by decide +kernel
theorem dX10_constant_5 : decode cX10_constant 5 = .ok (.aload_n 0, 1) := by decide +kernel
theorem dX10_constant_6 : decode cX10_constant 6 = .ok (.iload_n 1, 1) := by decide +kernel
theorem dX10_constant_7 : decode cX10_constant 7 = .ok (.iconst 0, 1) := by decide +kernel
theorem dX10_constant_8 : decode cX10_constant 8 = .ok (.iload_n 2, 1) := by decide +kernel
theorem dX10_constant_9 : decode cX10_constant 9 = .ok (.aload_n 0, 1) := by decide +kernel
theorem dX10_constant_10 : decode cX10_constant 10 = .ok (.getfield 7, 3) := by decide +kernel
theorem dX10_constant_13 : decode cX10_constant 13 = .ok (.iconst 0, 1) := by decide +kernel
theorem dX10_constant_14 : decode cX10_constant 14 = .ok (.iaload, 1) := by decide +kernel
theorem dX10_constant_15 : decode cX10_constant 15 = .ok (.irem, 1) := by decide +kernel
theorem dX10_constant_16 : decode cX10_constant 16 = .ok (.invokevirtual 59, 3) := by decide +kernel
theorem dX10_constant_19 : decode cX10_constant 19 = .ok (.return_, 1) := by decide +kernel
theorem dX10_loads_0 : decode cX10_loads 0 = .ok (.aload_n 0, 1) := by decide +kernel
theorem dX10_loads_1 : decode cX10_loads 1 = .ok (.iload_n 3, 1) := by decide +kernel
theorem dX10_loads_2 : decode cX10_loads 2 = .ok (.invokevirtual 63, 3) := by decide +kernel
theorem dX10_loads_5 : decode cX10_loads 5 = .ok (.iconst 0, 1) := by decide +kernel
theorem dX10_loads_6 : decode cX10_loads 6 = .ok (.istore 4, 2) := by decide +kernel
theorem dX10_loads_8 : decode cX10_loads 8 = .ok (.iload 4, 2) := by decide +kernel
theorem dX10_loads_10 : decode cX10_loads 10 = .ok (.iload_n 2, 1) := by decide +kernel
theorem dX10_loads_11 : decode cX10_loads 11 = .ok (.if_icmp .ge 25, 3) := by decide +kernel
theorem dX10_loads_14 : decode cX10_loads 14 = .ok (.aload_n 0, 1) := by decide +kernel
theorem dX10_loads_15 : decode cX10_loads 15 = .ok (.iload_n 3, 1) := by decide +kernel
theorem dX10_loads_16 : decode cX10_loads 16 = .ok (.iload 4, 2) := by decide +kernel
theorem dX10_loads_18 : decode cX10_loads 18 = .ok (.aload_n 0, 1) := by decide +kernel
theorem dX10_loads_19 : decode cX10_loads 19 = .ok (.getfield 7, 3) := by decide +kernel
theorem dX10_loads_22 : decode cX10_loads 22 = .ok (.iload_n 1, 1) := by decide +kernel
theorem dX10_loads_23 : decode cX10_loads 23 = .ok (.iload 4, 2) := by decide +kernel
theorem dX10_loads_25 : decode cX10_loads 25 = .ok (.iadd, 1) := by decide +kernel
theorem dX10_loads_26 : decode cX10_loads 26 = .ok (.iaload, 1) := by decide +kernel
theorem dX10_loads_27 : decode cX10_loads 27 = .ok (.invokevirtual 59, 3) := by decide +kernel
theorem dX10_loads_30 : decode cX10_loads 30 = .ok (.iinc 4 1, 3) := by decide +kernel
theorem dX10_loads_33 : decode cX10_loads 33 = .ok (.goto (-25), 3) := by decide +kernel
theorem dX10_loads_36 : decode cX10_loads 36 = .ok (.return_, 1) := by decide +kernel
theorem dX10_loadsModulus_0 : decode cX10_loadsModulus 0 = .ok (.aload_n 0, 1) := by decide +kernel
theorem dX10_loadsModulus_1 : decode cX10_loadsModulus 1 = .ok (.iconst 1, 1) := by decide +kernel
theorem dX10_loadsModulus_2 : decode cX10_loadsModulus 2 = .ok (.bipush 7, 2) := by decide +kernel
theorem dX10_loadsModulus_4 : decode cX10_loadsModulus 4 = .ok (.iconst 0, 1) := by decide +kernel
theorem dX10_loadsModulus_5 : decode cX10_loadsModulus 5 = .ok (.invokevirtual 67, 3) := by decide +kernel
theorem dX10_loadsModulus_8 : decode cX10_loadsModulus 8 = .ok (.return_, 1) := by decide +kernel
theorem dX10_loadsBranch_0 : decode cX10_loadsBranch 0 = .ok (.aload_n 0, 1) := by decide +kernel
theorem dX10_loadsBranch_1 : decode cX10_loadsBranch 1 = .ok (.bipush 45, 2) := by decide +kernel
theorem dX10_loadsBranch_3 : decode cX10_loadsBranch 3 = .ok (.bipush 7, 2) := by decide +kernel
theorem dX10_loadsBranch_5 : decode cX10_loadsBranch 5 = .ok (.iload_n 1, 1) := by decide +kernel
theorem dX10_loadsBranch_6 : decode cX10_loadsBranch 6 = .ok (.imul, 1) := by decide +kernel
theorem dX10_loadsBranch_7 : decode cX10_loadsBranch 7 = .ok (.iadd, 1) := by decide +kernel
theorem dX10_loadsBranch_8 : decode cX10_loadsBranch 8 = .ok (.bipush 7, 2) := by decide +kernel
theorem dX10_loadsBranch_10 : decode cX10_loadsBranch 10 = .ok (.iload_n 2, 1) := by decide +kernel
theorem dX10_loadsBranch_11 : decode cX10_loadsBranch 11 = .ok (.invokevirtual 67, 3) := by decide +kernel
theorem dX10_loadsBranch_14 : decode cX10_loadsBranch 14 = .ok (.return_, 1) := by decide +kernel
theorem dX10_loadsNumber_0 : decode cX10_loadsNumber 0 = .ok (.aload_n 0, 1) := by decide +kernel
theorem dX10_loadsNumber_1 : decode cX10_loadsNumber 1 = .ok (.bipush 8, 2) := by decide +kernel
theorem dX10_loadsNumber_3 : decode cX10_loadsNumber 3 = .ok (.bipush 6, 2) := by decide +kernel
theorem dX10_loadsNumber_5 : decode cX10_loadsNumber 5 = .ok (.iload_n 1, 1) := by decide +kernel
theorem dX10_loadsNumber_6 : decode cX10_loadsNumber 6 = .ok (.imul, 1) := by decide +kernel
theorem dX10_loadsNumber_7 : decode cX10_loadsNumber 7 = .ok (.iadd, 1) := by decide +kernel
theorem dX10_loadsNumber_8 : decode cX10_loadsNumber 8 = .ok (.bipush 6, 2) := by decide +kernel
theorem dX10_loadsNumber_10 : decode cX10_loadsNumber 10 = .ok (.iload_n 2, 1) := by decide +kernel
theorem dX10_loadsNumber_11 : decode cX10_loadsNumber 11 = .ok (.invokevirtual 67, 3) := by decide +kernel
theorem dX10_loadsNumber_14 : decode cX10_loadsNumber 14 = .ok (.return_, 1) := by decide +kernel
theorem dX10_inverse_0 : decode cX10_inverse 0 = .ok (.iconst 1, 1) := by decide +kernel
theorem dX10_inverse_1 : decode cX10_inverse 1 = .ok (.istore_n 2, 1) := by decide +kernel
theorem dX10_inverse_2 : decode cX10_inverse 2 = .ok (.iload_n 1, 1) := by decide +kernel
theorem dX10_inverse_3 : decode cX10_inverse 3 = .ok (.iload_n 2, 1) := by decide +kernel
theorem dX10_inverse_4 : decode cX10_inverse 4 = .ok (.imul, 1) := by decide +kernel
theorem dX10_inverse_5 : decode cX10_inverse 5 = .ok (.aload_n 0, 1) := by decide +kernel
theorem dX10_inverse_6 : decode cX10_inverse 6 = .ok (.getfield 7, 3) := by decide +kernel
theorem dX10_inverse_9 : decode cX10_inverse 9 = .ok (.iconst 0, 1) := by decide +kernel
theorem dX10_inverse_10 : decode cX10_inverse 10 = .ok (.iaload, 1) := by decide +kernel
theorem dX10_inverse_11 : decode cX10_inverse 11 = .ok (.irem, 1) := by decide +kernel
theorem dX10_inverse_12 : decode cX10_inverse 12 = .ok (.iconst 1, 1) := by decide +kernel
theorem dX10_inverse_13 : decode cX10_inverse 13 = .ok (.if_icmp .eq 9, 3) := by decide +kernel
theorem dX10_inverse_16 : decode cX10_inverse 16 = .ok (.iinc 2 1, 3) := by decide +kernel
theorem dX10_inverse_19 : decode cX10_inverse 19 = .ok (.goto (-17), 3) := by decide +kernel
theorem dX10_inverse_22 : decode cX10_inverse 22 = .ok (.iload_n 2, 1) := by decide +kernel
theorem dX10_inverse_23 : decode cX10_inverse 23 = .ok (.ireturn, 1) := by decide +kernel
theorem dX10_adds_0 : decode cX10_adds 0 = .ok (.aload_n 0, 1) := by decide +kernel
theorem dX10_adds_1 : decode cX10_adds 1 = .ok (.getfield 7, 3) := by decide +kernel
theorem dX10_adds_4 : decode cX10_adds 4 = .ok (.iconst 0, 1) := by decide +kernel
theorem dX10_adds_5 : decode cX10_adds 5 = .ok (.iaload, 1) := by decide +kernel
theorem dX10_adds_6 : decode cX10_adds 6 = .ok (.istore 4, 2) := by decide +kernel
theorem dX10_adds_8 : decode cX10_adds 8 = .ok (.iconst 0, 1) := by decide +kernel
theorem dX10_adds_9 : decode cX10_adds 9 = .ok (.istore 5, 2) := by decide +kernel
theorem dX10_adds_11 : decode cX10_adds 11 = .ok (.iload 5, 2) := by decide +kernel
theorem dX10_adds_13 : decode cX10_adds 13 = .ok (.bipush 14, 2) := by decide +kernel
theorem dX10_adds_15 : decode cX10_adds 15 = .ok (.if_icmp .ge 36, 3) := by decide +kernel
theorem dX10_adds_18 : decode cX10_adds 18 = .ok (.aload_n 0, 1) := by decide +kernel
theorem dX10_adds_19 : decode cX10_adds 19 = .ok (.iload_n 2, 1) := by decide +kernel
theorem dX10_adds_20 : decode cX10_adds 20 = .ok (.iload 5, 2) := by decide +kernel
theorem dX10_adds_22 : decode cX10_adds 22 = .ok (.aload_n 0, 1) := by decide +kernel
theorem dX10_adds_23 : decode cX10_adds 23 = .ok (.iload_n 2, 1) := by decide +kernel
theorem dX10_adds_24 : decode cX10_adds 24 = .ok (.iload 5, 2) := by decide +kernel
theorem dX10_adds_26 : decode cX10_adds 26 = .ok (.invokevirtual 55, 3) := by decide +kernel
theorem dX10_adds_29 : decode cX10_adds 29 = .ok (.iload_n 3, 1) := by decide +kernel
theorem dX10_adds_30 : decode cX10_adds 30 = .ok (.aload_n 0, 1) := by decide +kernel
theorem dX10_adds_31 : decode cX10_adds 31 = .ok (.iload_n 1, 1) := by decide +kernel
theorem dX10_adds_32 : decode cX10_adds 32 = .ok (.iload 5, 2) := by decide +kernel
theorem dX10_adds_34 : decode cX10_adds 34 = .ok (.invokevirtual 55, 3) := by decide +kernel
theorem dX10_adds_37 : decode cX10_adds 37 = .ok (.imul, 1) := by decide +kernel
theorem dX10_adds_38 : decode cX10_adds 38 = .ok (.iadd, 1) := by decide +kernel
theorem dX10_adds_39 : decode cX10_adds 39 = .ok (.iload 4, 2) := by decide +kernel
theorem dX10_adds_41 : decode cX10_adds 41 = .ok (.irem, 1) := by decide +kernel
theorem dX10_adds_42 : decode cX10_adds 42 = .ok (.invokevirtual 59, 3) := by decide +kernel
theorem dX10_adds_45 : decode cX10_adds 45 = .ok (.iinc 5 1, 3) := by decide +kernel
theorem dX10_adds_48 : decode cX10_adds 48 = .ok (.goto (-37), 3) := by decide +kernel
theorem dX10_adds_51 : decode cX10_adds 51 = .ok (.return_, 1) := by decide +kernel
theorem dX10_multiplies_0 : decode cX10_multiplies 0 = .ok (.aload_n 0, 1) := by decide +kernel
theorem dX10_multiplies_1 : decode cX10_multiplies 1 = .ok (.getfield 7, 3) := by decide +kernel
theorem dX10_multiplies_4 : decode cX10_multiplies 4 = .ok (.iconst 0, 1) := by decide +kernel
theorem dX10_multiplies_5 : decode cX10_multiplies 5 = .ok (.iaload, 1) := by decide +kernel
theorem dX10_multiplies_6 : decode cX10_multiplies 6 = .ok (.istore 4, 2) := by decide +kernel
theorem dX10_multiplies_8 : decode cX10_multiplies 8 = .ok (.aload_n 0, 1) := by decide +kernel
theorem dX10_multiplies_9 : decode cX10_multiplies 9 = .ok (.iload_n 2, 1) := by decide +kernel
theorem dX10_multiplies_10 : decode cX10_multiplies 10 = .ok (.invokevirtual 70, 3) := by decide +kernel
theorem dX10_multiplies_13 : decode cX10_multiplies 13 = .ok (.istore 5, 2) := by decide +kernel
theorem dX10_multiplies_15 : decode cX10_multiplies 15 = .ok (.iconst 0, 1) := by decide +kernel
theorem dX10_multiplies_16 : decode cX10_multiplies 16 = .ok (.istore 6, 2) := by decide +kernel
theorem dX10_multiplies_18 : decode cX10_multiplies 18 = .ok (.iload 6, 2) := by decide +kernel
theorem dX10_multiplies_20 : decode cX10_multiplies 20 = .ok (.bipush 14, 2) := by decide +kernel
theorem dX10_multiplies_22 : decode cX10_multiplies 22 = .ok (.if_icmp .ge 17, 3) := by decide +kernel
theorem dX10_multiplies_25 : decode cX10_multiplies 25 = .ok (.aload_n 0, 1) := by decide +kernel
theorem dX10_multiplies_26 : decode cX10_multiplies 26 = .ok (.getfield 22, 3) := by decide +kernel
theorem dX10_multiplies_29 : decode cX10_multiplies 29 = .ok (.iload 6, 2) := by decide +kernel
theorem dX10_multiplies_31 : decode cX10_multiplies 31 = .ok (.iconst 0, 1) := by decide +kernel
theorem dX10_multiplies_32 : decode cX10_multiplies 32 = .ok (.iastore, 1) := by decide +kernel
theorem dX10_multiplies_33 : decode cX10_multiplies 33 = .ok (.iinc 6 1, 3) := by decide +kernel
theorem dX10_multiplies_36 : decode cX10_multiplies 36 = .ok (.goto (-18), 3) := by decide +kernel
theorem dX10_multiplies_39 : decode cX10_multiplies 39 = .ok (.aload_n 0, 1) := by decide +kernel
theorem dX10_multiplies_40 : decode cX10_multiplies 40 = .ok (.iload_n 1, 1) := by decide +kernel
theorem dX10_multiplies_41 : decode cX10_multiplies 41 = .ok (.invokevirtual 70, 3) := by decide +kernel
theorem dX10_multiplies_44 : decode cX10_multiplies 44 = .ok (.istore 6, 2) := by decide +kernel
theorem dX10_multiplies_46 : decode cX10_multiplies 46 = .ok (.iload 6, 2) := by decide +kernel
theorem dX10_multiplies_48 : decode cX10_multiplies 48 = .ok (.ifCond .lt 64, 3) := by decide +kernel
theorem dX10_multiplies_51 : decode cX10_multiplies 51 = .ok (.iconst 0, 1) := by decide +kernel
theorem dX10_multiplies_52 : decode cX10_multiplies 52 = .ok (.istore 7, 2) := by decide +kernel
theorem dX10_multiplies_54 : decode cX10_multiplies 54 = .ok (.iload 7, 2) := by decide +kernel
theorem dX10_multiplies_56 : decode cX10_multiplies 56 = .ok (.iload 5, 2) := by decide +kernel
theorem dX10_multiplies_58 : decode cX10_multiplies 58 = .ok (.if_icmp .gt 48, 3) := by decide +kernel
theorem dX10_multiplies_61 : decode cX10_multiplies 61 = .ok (.aload_n 0, 1) := by decide +kernel
theorem dX10_multiplies_62 : decode cX10_multiplies 62 = .ok (.getfield 22, 3) := by decide +kernel
theorem dX10_multiplies_65 : decode cX10_multiplies 65 = .ok (.iload 6, 2) := by decide +kernel
theorem dX10_multiplies_67 : decode cX10_multiplies 67 = .ok (.iload 7, 2) := by decide +kernel
theorem dX10_multiplies_69 : decode cX10_multiplies 69 = .ok (.iadd, 1) := by decide +kernel
theorem dX10_multiplies_70 : decode cX10_multiplies 70 = .ok (.aload_n 0, 1) := by decide +kernel
theorem dX10_multiplies_71 : decode cX10_multiplies 71 = .ok (.getfield 22, 3) := by decide +kernel
theorem dX10_multiplies_74 : decode cX10_multiplies 74 = .ok (.iload 6, 2) := by decide +kernel
theorem dX10_multiplies_76 : decode cX10_multiplies 76 = .ok (.iload 7, 2) := by decide +kernel
theorem dX10_multiplies_78 : decode cX10_multiplies 78 = .ok (.iadd, 1) := by decide +kernel
theorem dX10_multiplies_79 : decode cX10_multiplies 79 = .ok (.iaload, 1) := by decide +kernel
theorem dX10_multiplies_80 : decode cX10_multiplies 80 = .ok (.aload_n 0, 1) := by decide +kernel
theorem dX10_multiplies_81 : decode cX10_multiplies 81 = .ok (.iload_n 1, 1) := by decide +kernel
theorem dX10_multiplies_82 : decode cX10_multiplies 82 = .ok (.iload 6, 2) := by decide +kernel
theorem dX10_multiplies_84 : decode cX10_multiplies 84 = .ok (.invokevirtual 55, 3) := by decide +kernel
theorem dX10_multiplies_87 : decode cX10_multiplies 87 = .ok (.aload_n 0, 1) := by decide +kernel
theorem dX10_multiplies_88 : decode cX10_multiplies 88 = .ok (.iload_n 2, 1) := by decide +kernel
theorem dX10_multiplies_89 : decode cX10_multiplies 89 = .ok (.iload 7, 2) := by decide +kernel
theorem dX10_multiplies_91 : decode cX10_multiplies 91 = .ok (.invokevirtual 55, 3) := by decide +kernel
theorem dX10_multiplies_94 : decode cX10_multiplies 94 = .ok (.imul, 1) := by decide +kernel
theorem dX10_multiplies_95 : decode cX10_multiplies 95 = .ok (.iadd, 1) := by decide +kernel
theorem dX10_multiplies_96 : decode cX10_multiplies 96 = .ok (.iload 4, 2) := by decide +kernel
theorem dX10_multiplies_98 : decode cX10_multiplies 98 = .ok (.irem, 1) := by decide +kernel
theorem dX10_multiplies_99 : decode cX10_multiplies 99 = .ok (.iastore, 1) := by decide +kernel
theorem dX10_multiplies_100 : decode cX10_multiplies 100 = .ok (.iinc 7 1, 3) := by decide +kernel
theorem dX10_multiplies_103 : decode cX10_multiplies 103 = .ok (.goto (-49), 3) := by decide +kernel
theorem dX10_multiplies_106 : decode cX10_multiplies 106 = .ok (.iinc 6 (-1), 3) := by decide +kernel
theorem dX10_multiplies_109 : decode cX10_multiplies 109 = .ok (.goto (-63), 3) := by decide +kernel
theorem dX10_multiplies_112 : decode cX10_multiplies 112 = .ok (.iconst 0, 1) := by decide +kernel
theorem dX10_multiplies_113 : decode cX10_multiplies 113 = .ok (.istore 6, 2) := by decide +kernel
theorem dX10_multiplies_115 : decode cX10_multiplies 115 = .ok (.iload 6, 2) := by decide +kernel
theorem dX10_multiplies_117 : decode cX10_multiplies 117 = .ok (.bipush 14, 2) := by decide +kernel
theorem dX10_multiplies_119 : decode cX10_multiplies 119 = .ok (.if_icmp .ge 23, 3) := by decide +kernel
theorem dX10_multiplies_122 : decode cX10_multiplies 122 = .ok (.aload_n 0, 1) := by decide +kernel
theorem dX10_multiplies_123 : decode cX10_multiplies 123 = .ok (.iload_n 3, 1) := by decide +kernel
theorem dX10_multiplies_124 : decode cX10_multiplies 124 = .ok (.iload 6, 2) := by decide +kernel
theorem dX10_multiplies_126 : decode cX10_multiplies 126 = .ok (.aload_n 0, 1) := by decide +kernel
theorem dX10_multiplies_127 : decode cX10_multiplies 127 = .ok (.getfield 22, 3) := by decide +kernel
theorem dX10_multiplies_130 : decode cX10_multiplies 130 = .ok (.iload 6, 2) := by decide +kernel
theorem dX10_multiplies_132 : decode cX10_multiplies 132 = .ok (.iaload, 1) := by decide +kernel
theorem dX10_multiplies_133 : decode cX10_multiplies 133 = .ok (.invokevirtual 59, 3) := by decide +kernel
theorem dX10_multiplies_136 : decode cX10_multiplies 136 = .ok (.iinc 6 1, 3) := by decide +kernel
theorem dX10_multiplies_139 : decode cX10_multiplies 139 = .ok (.goto (-24), 3) := by decide +kernel
theorem dX10_multiplies_142 : decode cX10_multiplies 142 = .ok (.return_, 1) := by decide +kernel
theorem dX10_divides_0 : decode cX10_divides 0 = .ok (.aload_n 0, 1) := by decide +kernel
theorem dX10_divides_1 : decode cX10_divides 1 = .ok (.getfield 7, 3) := by decide +kernel
theorem dX10_divides_4 : decode cX10_divides 4 = .ok (.iconst 0, 1) := by decide +kernel
theorem dX10_divides_5 : decode cX10_divides 5 = .ok (.iaload, 1) := by decide +kernel
theorem dX10_divides_6 : decode cX10_divides 6 = .ok (.istore 4, 2) := by decide +kernel
theorem dX10_divides_8 : decode cX10_divides 8 = .ok (.aload_n 0, 1) := by decide +kernel
theorem dX10_divides_9 : decode cX10_divides 9 = .ok (.iload_n 2, 1) := by decide +kernel
theorem dX10_divides_10 : decode cX10_divides 10 = .ok (.invokevirtual 70, 3) := by decide +kernel
theorem dX10_divides_13 : decode cX10_divides 13 = .ok (.istore 5, 2) := by decide +kernel
theorem dX10_divides_15 : decode cX10_divides 15 = .ok (.aload_n 0, 1) := by decide +kernel
theorem dX10_divides_16 : decode cX10_divides 16 = .ok (.aload_n 0, 1) := by decide +kernel
theorem dX10_divides_17 : decode cX10_divides 17 = .ok (.iload_n 2, 1) := by decide +kernel
theorem dX10_divides_18 : decode cX10_divides 18 = .ok (.iload 5, 2) := by decide +kernel
theorem dX10_divides_20 : decode cX10_divides 20 = .ok (.invokevirtual 55, 3) := by decide +kernel
theorem dX10_divides_23 : decode cX10_divides 23 = .ok (.invokevirtual 74, 3) := by decide +kernel
theorem dX10_divides_26 : decode cX10_divides 26 = .ok (.istore 6, 2) := by decide +kernel
theorem dX10_divides_28 : decode cX10_divides 28 = .ok (.iload_n 3, 1) := by decide +kernel
theorem dX10_divides_29 : decode cX10_divides 29 = .ok (.ifCond .lt 8, 3) := by decide +kernel
theorem dX10_divides_32 : decode cX10_divides 32 = .ok (.aload_n 0, 1) := by decide +kernel
theorem dX10_divides_33 : decode cX10_divides 33 = .ok (.iload_n 3, 1) := by decide +kernel
theorem dX10_divides_34 : decode cX10_divides 34 = .ok (.invokevirtual 63, 3) := by decide +kernel
theorem dX10_divides_37 : decode cX10_divides 37 = .ok (.aload_n 0, 1) := by decide +kernel
theorem dX10_divides_38 : decode cX10_divides 38 = .ok (.iload_n 1, 1) := by decide +kernel
theorem dX10_divides_39 : decode cX10_divides 39 = .ok (.invokevirtual 70, 3) := by decide +kernel
theorem dX10_divides_42 : decode cX10_divides 42 = .ok (.istore 7, 2) := by decide +kernel
theorem dX10_divides_44 : decode cX10_divides 44 = .ok (.iload 7, 2) := by decide +kernel
theorem dX10_divides_46 : decode cX10_divides 46 = .ok (.iload 5, 2) := by decide +kernel
theorem dX10_divides_48 : decode cX10_divides 48 = .ok (.if_icmp .lt 103, 3) := by decide +kernel
theorem dX10_divides_51 : decode cX10_divides 51 = .ok (.aload_n 0, 1) := by decide +kernel
theorem dX10_divides_52 : decode cX10_divides 52 = .ok (.iload_n 1, 1) := by decide +kernel
theorem dX10_divides_53 : decode cX10_divides 53 = .ok (.iload 7, 2) := by decide +kernel
theorem dX10_divides_55 : decode cX10_divides 55 = .ok (.invokevirtual 55, 3) := by decide +kernel
theorem dX10_divides_58 : decode cX10_divides 58 = .ok (.iload 6, 2) := by decide +kernel
theorem dX10_divides_60 : decode cX10_divides 60 = .ok (.imul, 1) := by decide +kernel
theorem dX10_divides_61 : decode cX10_divides 61 = .ok (.iload 4, 2) := by decide +kernel
theorem dX10_divides_63 : decode cX10_divides 63 = .ok (.irem, 1) := by decide +kernel
theorem dX10_divides_64 : decode cX10_divides 64 = .ok (.istore 8, 2) := by decide +kernel
theorem dX10_divides_66 : decode cX10_divides 66 = .ok (.iconst 0, 1) := by decide +kernel
theorem dX10_divides_67 : decode cX10_divides 67 = .ok (.istore 9, 2) := by decide +kernel
theorem dX10_divides_69 : decode cX10_divides 69 = .ok (.iload 9, 2) := by decide +kernel
theorem dX10_divides_71 : decode cX10_divides 71 = .ok (.iload 5, 2) := by decide +kernel
theorem dX10_divides_73 : decode cX10_divides 73 = .ok (.if_icmp .gt 52, 3) := by decide +kernel
theorem dX10_divides_76 : decode cX10_divides 76 = .ok (.aload_n 0, 1) := by decide +kernel
theorem dX10_divides_77 : decode cX10_divides 77 = .ok (.iload_n 1, 1) := by decide +kernel
theorem dX10_divides_78 : decode cX10_divides 78 = .ok (.iload 7, 2) := by decide +kernel
theorem dX10_divides_80 : decode cX10_divides 80 = .ok (.iload 5, 2) := by decide +kernel
theorem dX10_divides_82 : decode cX10_divides 82 = .ok (.isub, 1) := by decide +kernel
theorem dX10_divides_83 : decode cX10_divides 83 = .ok (.iload 9, 2) := by decide +kernel
theorem dX10_divides_85 : decode cX10_divides 85 = .ok (.iadd, 1) := by decide +kernel
theorem dX10_divides_86 : decode cX10_divides 86 = .ok (.aload_n 0, 1) := by decide +kernel
theorem dX10_divides_87 : decode cX10_divides 87 = .ok (.iload_n 1, 1) := by decide +kernel
theorem dX10_divides_88 : decode cX10_divides 88 = .ok (.iload 7, 2) := by decide +kernel
theorem dX10_divides_90 : decode cX10_divides 90 = .ok (.iload 5, 2) := by decide +kernel
theorem dX10_divides_92 : decode cX10_divides 92 = .ok (.isub, 1) := by decide +kernel
theorem dX10_divides_93 : decode cX10_divides 93 = .ok (.iload 9, 2) := by decide +kernel
theorem dX10_divides_95 : decode cX10_divides 95 = .ok (.iadd, 1) := by decide +kernel
theorem dX10_divides_96 : decode cX10_divides 96 = .ok (.invokevirtual 55, 3) := by decide +kernel
theorem dX10_divides_99 : decode cX10_divides 99 = .ok (.iload 4, 2) := by decide +kernel
theorem dX10_divides_101 : decode cX10_divides 101 = .ok (.iload 8, 2) := by decide +kernel
theorem dX10_divides_103 : decode cX10_divides 103 = .ok (.isub, 1) := by decide +kernel
theorem dX10_divides_104 : decode cX10_divides 104 = .ok (.aload_n 0, 1) := by decide +kernel
theorem dX10_divides_105 : decode cX10_divides 105 = .ok (.iload_n 2, 1) := by decide +kernel
theorem dX10_divides_106 : decode cX10_divides 106 = .ok (.iload 9, 2) := by decide +kernel
theorem dX10_divides_108 : decode cX10_divides 108 = .ok (.invokevirtual 55, 3) := by decide +kernel
theorem dX10_divides_111 : decode cX10_divides 111 = .ok (.imul, 1) := by decide +kernel
theorem dX10_divides_112 : decode cX10_divides 112 = .ok (.iadd, 1) := by decide +kernel
theorem dX10_divides_113 : decode cX10_divides 113 = .ok (.iload 4, 2) := by decide +kernel
theorem dX10_divides_115 : decode cX10_divides 115 = .ok (.irem, 1) := by decide +kernel
theorem dX10_divides_116 : decode cX10_divides 116 = .ok (.invokevirtual 59, 3) := by decide +kernel
theorem dX10_divides_119 : decode cX10_divides 119 = .ok (.iinc 9 1, 3) := by decide +kernel
theorem dX10_divides_122 : decode cX10_divides 122 = .ok (.goto (-53), 3) := by decide +kernel
theorem dX10_divides_125 : decode cX10_divides 125 = .ok (.iload_n 3, 1) := by decide +kernel
theorem dX10_divides_126 : decode cX10_divides 126 = .ok (.ifCond .lt 15, 3) := by decide +kernel
theorem dX10_divides_129 : decode cX10_divides 129 = .ok (.aload_n 0, 1) := by decide +kernel
theorem dX10_divides_130 : decode cX10_divides 130 = .ok (.iload_n 3, 1) := by decide +kernel
theorem dX10_divides_131 : decode cX10_divides 131 = .ok (.iload 7, 2) := by decide +kernel
theorem dX10_divides_133 : decode cX10_divides 133 = .ok (.iload 5, 2) := by decide +kernel
theorem dX10_divides_135 : decode cX10_divides 135 = .ok (.isub, 1) := by decide +kernel
theorem dX10_divides_136 : decode cX10_divides 136 = .ok (.iload 8, 2) := by decide +kernel
theorem dX10_divides_138 : decode cX10_divides 138 = .ok (.invokevirtual 59, 3) := by decide +kernel
theorem dX10_divides_141 : decode cX10_divides 141 = .ok (.aload_n 0, 1) := by decide +kernel
theorem dX10_divides_142 : decode cX10_divides 142 = .ok (.iload_n 1, 1) := by decide +kernel
theorem dX10_divides_143 : decode cX10_divides 143 = .ok (.invokevirtual 70, 3) := by decide +kernel
theorem dX10_divides_146 : decode cX10_divides 146 = .ok (.istore 7, 2) := by decide +kernel
theorem dX10_divides_148 : decode cX10_divides 148 = .ok (.goto (-104), 3) := by decide +kernel
theorem dX10_divides_151 : decode cX10_divides 151 = .ok (.return_, 1) := by decide +kernel
theorem dX10_monic_0 : decode cX10_monic 0 = .ok (.aload_n 0, 1) := by decide +kernel
theorem dX10_monic_1 : decode cX10_monic 1 = .ok (.aload_n 0, 1) := by decide +kernel
theorem dX10_monic_2 : decode cX10_monic 2 = .ok (.iload_n 1, 1) := by decide +kernel
theorem dX10_monic_3 : decode cX10_monic 3 = .ok (.aload_n 0, 1) := by decide +kernel
theorem dX10_monic_4 : decode cX10_monic 4 = .ok (.iload_n 1, 1) := by decide +kernel
theorem dX10_monic_5 : decode cX10_monic 5 = .ok (.invokevirtual 70, 3) := by decide +kernel
theorem dX10_monic_8 : decode cX10_monic 8 = .ok (.invokevirtual 55, 3) := by decide +kernel
theorem dX10_monic_11 : decode cX10_monic 11 = .ok (.invokevirtual 74, 3) := by decide +kernel
theorem dX10_monic_14 : decode cX10_monic 14 = .ok (.istore_n 2, 1) := by decide +kernel
theorem dX10_monic_15 : decode cX10_monic 15 = .ok (.iconst 0, 1) := by decide +kernel
theorem dX10_monic_16 : decode cX10_monic 16 = .ok (.istore_n 3, 1) := by decide +kernel
theorem dX10_monic_17 : decode cX10_monic 17 = .ok (.iload_n 3, 1) := by decide +kernel
theorem dX10_monic_18 : decode cX10_monic 18 = .ok (.bipush 14, 2) := by decide +kernel
theorem dX10_monic_20 : decode cX10_monic 20 = .ok (.if_icmp .ge 30, 3) := by decide +kernel
theorem dX10_monic_23 : decode cX10_monic 23 = .ok (.aload_n 0, 1) := by decide +kernel
theorem dX10_monic_24 : decode cX10_monic 24 = .ok (.iload_n 1, 1) := by decide +kernel
theorem dX10_monic_25 : decode cX10_monic 25 = .ok (.iload_n 3, 1) := by decide +kernel
theorem dX10_monic_26 : decode cX10_monic 26 = .ok (.aload_n 0, 1) := by decide +kernel
theorem dX10_monic_27 : decode cX10_monic 27 = .ok (.iload_n 1, 1) := by decide +kernel
theorem dX10_monic_28 : decode cX10_monic 28 = .ok (.iload_n 3, 1) := by decide +kernel
theorem dX10_monic_29 : decode cX10_monic 29 = .ok (.invokevirtual 55, 3) := by decide +kernel
theorem dX10_monic_32 : decode cX10_monic 32 = .ok (.iload_n 2, 1) := by decide +kernel
theorem dX10_monic_33 : decode cX10_monic 33 = .ok (.imul, 1) := by decide +kernel
theorem dX10_monic_34 : decode cX10_monic 34 = .ok (.aload_n 0, 1) := by decide +kernel
theorem dX10_monic_35 : decode cX10_monic 35 = .ok (.getfield 7, 3) := by decide +kernel
theorem dX10_monic_38 : decode cX10_monic 38 = .ok (.iconst 0, 1) := by decide +kernel
theorem dX10_monic_39 : decode cX10_monic 39 = .ok (.iaload, 1) := by decide +kernel
theorem dX10_monic_40 : decode cX10_monic 40 = .ok (.irem, 1) := by decide +kernel
theorem dX10_monic_41 : decode cX10_monic 41 = .ok (.invokevirtual 59, 3) := by decide +kernel
theorem dX10_monic_44 : decode cX10_monic 44 = .ok (.iinc 3 1, 3) := by decide +kernel
theorem dX10_monic_47 : decode cX10_monic 47 = .ok (.goto (-30), 3) := by decide +kernel
theorem dX10_monic_50 : decode cX10_monic 50 = .ok (.return_, 1) := by decide +kernel
theorem dX10_common_0 : decode cX10_common 0 = .ok (.aload_n 0, 1) := by decide +kernel
theorem dX10_common_1 : decode cX10_common 1 = .ok (.iload_n 1, 1) := by decide +kernel
theorem dX10_common_2 : decode cX10_common 2 = .ok (.bipush 12, 2) := by decide +kernel
theorem dX10_common_4 : decode cX10_common 4 = .ok (.invokevirtual 77, 3) := by decide +kernel
theorem dX10_common_7 : decode cX10_common 7 = .ok (.aload_n 0, 1) := by decide +kernel
theorem dX10_common_8 : decode cX10_common 8 = .ok (.iload_n 2, 1) := by decide +kernel
theorem dX10_common_9 : decode cX10_common 9 = .ok (.bipush 13, 2) := by decide +kernel
theorem dX10_common_11 : decode cX10_common 11 = .ok (.invokevirtual 77, 3) := by decide +kernel
theorem dX10_common_14 : decode cX10_common 14 = .ok (.aload_n 0, 1) := by decide +kernel
theorem dX10_common_15 : decode cX10_common 15 = .ok (.bipush 13, 2) := by decide +kernel
theorem dX10_common_17 : decode cX10_common 17 = .ok (.invokevirtual 70, 3) := by decide +kernel
theorem dX10_common_20 : decode cX10_common 20 = .ok (.ifCond .lt 39, 3) := by decide +kernel
theorem dX10_common_23 : decode cX10_common 23 = .ok (.aload_n 0, 1) := by decide +kernel
theorem dX10_common_24 : decode cX10_common 24 = .ok (.bipush 12, 2) := by decide +kernel
theorem dX10_common_26 : decode cX10_common 26 = .ok (.bipush 13, 2) := by decide +kernel
theorem dX10_common_28 : decode cX10_common 28 = .ok (.iconst (-1), 1) := by decide +kernel
theorem dX10_common_29 : decode cX10_common 29 = .ok (.invokevirtual 81, 3) := by decide +kernel
theorem dX10_common_32 : decode cX10_common 32 = .ok (.aload_n 0, 1) := by decide +kernel
theorem dX10_common_33 : decode cX10_common 33 = .ok (.bipush 12, 2) := by decide +kernel
theorem dX10_common_35 : decode cX10_common 35 = .ok (.bipush 11, 2) := by decide +kernel
theorem dX10_common_37 : decode cX10_common 37 = .ok (.invokevirtual 77, 3) := by decide +kernel
theorem dX10_common_40 : decode cX10_common 40 = .ok (.aload_n 0, 1) := by decide +kernel
theorem dX10_common_41 : decode cX10_common 41 = .ok (.bipush 13, 2) := by decide +kernel
theorem dX10_common_43 : decode cX10_common 43 = .ok (.bipush 12, 2) := by decide +kernel
theorem dX10_common_45 : decode cX10_common 45 = .ok (.invokevirtual 77, 3) := by decide +kernel
theorem dX10_common_48 : decode cX10_common 48 = .ok (.aload_n 0, 1) := by decide +kernel
theorem dX10_common_49 : decode cX10_common 49 = .ok (.bipush 11, 2) := by decide +kernel
theorem dX10_common_51 : decode cX10_common 51 = .ok (.bipush 13, 2) := by decide +kernel
theorem dX10_common_53 : decode cX10_common 53 = .ok (.invokevirtual 77, 3) := by decide +kernel
theorem dX10_common_56 : decode cX10_common 56 = .ok (.goto (-42), 3) := by decide +kernel
theorem dX10_common_59 : decode cX10_common 59 = .ok (.aload_n 0, 1) := by decide +kernel
theorem dX10_common_60 : decode cX10_common 60 = .ok (.bipush 12, 2) := by decide +kernel
theorem dX10_common_62 : decode cX10_common 62 = .ok (.invokevirtual 84, 3) := by decide +kernel
theorem dX10_common_65 : decode cX10_common 65 = .ok (.aload_n 0, 1) := by decide +kernel
theorem dX10_common_66 : decode cX10_common 66 = .ok (.bipush 12, 2) := by decide +kernel
theorem dX10_common_68 : decode cX10_common 68 = .ok (.iload_n 3, 1) := by decide +kernel
theorem dX10_common_69 : decode cX10_common 69 = .ok (.invokevirtual 77, 3) := by decide +kernel
theorem dX10_common_72 : decode cX10_common 72 = .ok (.return_, 1) := by decide +kernel
theorem dX10_inverts_0 : decode cX10_inverts 0 = .ok (.aload_n 0, 1) := by decide +kernel
theorem dX10_inverts_1 : decode cX10_inverts 1 = .ok (.iload_n 2, 1) := by decide +kernel
theorem dX10_inverts_2 : decode cX10_inverts 2 = .ok (.bipush 6, 2) := by decide +kernel
theorem dX10_inverts_4 : decode cX10_inverts 4 = .ok (.invokevirtual 77, 3) := by decide +kernel
theorem dX10_inverts_7 : decode cX10_inverts 7 = .ok (.aload_n 0, 1) := by decide +kernel
theorem dX10_inverts_8 : decode cX10_inverts 8 = .ok (.iload_n 1, 1) := by decide +kernel
theorem dX10_inverts_9 : decode cX10_inverts 9 = .ok (.bipush 7, 2) := by decide +kernel
theorem dX10_inverts_11 : decode cX10_inverts 11 = .ok (.invokevirtual 77, 3) := by decide +kernel
theorem dX10_inverts_14 : decode cX10_inverts 14 = .ok (.aload_n 0, 1) := by decide +kernel
theorem dX10_inverts_15 : decode cX10_inverts 15 = .ok (.bipush 7, 2) := by decide +kernel
theorem dX10_inverts_17 : decode cX10_inverts 17 = .ok (.iload_n 2, 1) := by decide +kernel
theorem dX10_inverts_18 : decode cX10_inverts 18 = .ok (.iconst (-1), 1) := by decide +kernel
theorem dX10_inverts_19 : decode cX10_inverts 19 = .ok (.invokevirtual 81, 3) := by decide +kernel
theorem dX10_inverts_22 : decode cX10_inverts 22 = .ok (.aload_n 0, 1) := by decide +kernel
theorem dX10_inverts_23 : decode cX10_inverts 23 = .ok (.bipush 8, 2) := by decide +kernel
theorem dX10_inverts_25 : decode cX10_inverts 25 = .ok (.iconst 0, 1) := by decide +kernel
theorem dX10_inverts_26 : decode cX10_inverts 26 = .ok (.invokevirtual 87, 3) := by decide +kernel
theorem dX10_inverts_29 : decode cX10_inverts 29 = .ok (.aload_n 0, 1) := by decide +kernel
theorem dX10_inverts_30 : decode cX10_inverts 30 = .ok (.bipush 9, 2) := by decide +kernel
theorem dX10_inverts_32 : decode cX10_inverts 32 = .ok (.iconst 1, 1) := by decide +kernel
theorem dX10_inverts_33 : decode cX10_inverts 33 = .ok (.invokevirtual 87, 3) := by decide +kernel
theorem dX10_inverts_36 : decode cX10_inverts 36 = .ok (.aload_n 0, 1) := by decide +kernel
theorem dX10_inverts_37 : decode cX10_inverts 37 = .ok (.bipush 7, 2) := by decide +kernel
theorem dX10_inverts_39 : decode cX10_inverts 39 = .ok (.invokevirtual 70, 3) := by decide +kernel
theorem dX10_inverts_42 : decode cX10_inverts 42 = .ok (.ifCond .le 90, 3) := by decide +kernel
theorem dX10_inverts_45 : decode cX10_inverts 45 = .ok (.aload_n 0, 1) := by decide +kernel
theorem dX10_inverts_46 : decode cX10_inverts 46 = .ok (.bipush 6, 2) := by decide +kernel
theorem dX10_inverts_48 : decode cX10_inverts 48 = .ok (.bipush 7, 2) := by decide +kernel
theorem dX10_inverts_50 : decode cX10_inverts 50 = .ok (.bipush 10, 2) := by decide +kernel
theorem dX10_inverts_52 : decode cX10_inverts 52 = .ok (.invokevirtual 81, 3) := by decide +kernel
theorem dX10_inverts_55 : decode cX10_inverts 55 = .ok (.aload_n 0, 1) := by decide +kernel
theorem dX10_inverts_56 : decode cX10_inverts 56 = .ok (.bipush 6, 2) := by decide +kernel
theorem dX10_inverts_58 : decode cX10_inverts 58 = .ok (.bipush 11, 2) := by decide +kernel
theorem dX10_inverts_60 : decode cX10_inverts 60 = .ok (.invokevirtual 77, 3) := by decide +kernel
theorem dX10_inverts_63 : decode cX10_inverts 63 = .ok (.aload_n 0, 1) := by decide +kernel
theorem dX10_inverts_64 : decode cX10_inverts 64 = .ok (.bipush 7, 2) := by decide +kernel
theorem dX10_inverts_66 : decode cX10_inverts 66 = .ok (.bipush 6, 2) := by decide +kernel
theorem dX10_inverts_68 : decode cX10_inverts 68 = .ok (.invokevirtual 77, 3) := by decide +kernel
theorem dX10_inverts_71 : decode cX10_inverts 71 = .ok (.aload_n 0, 1) := by decide +kernel
theorem dX10_inverts_72 : decode cX10_inverts 72 = .ok (.bipush 11, 2) := by decide +kernel
theorem dX10_inverts_74 : decode cX10_inverts 74 = .ok (.bipush 7, 2) := by decide +kernel
theorem dX10_inverts_76 : decode cX10_inverts 76 = .ok (.invokevirtual 77, 3) := by decide +kernel
theorem dX10_inverts_79 : decode cX10_inverts 79 = .ok (.aload_n 0, 1) := by decide +kernel
theorem dX10_inverts_80 : decode cX10_inverts 80 = .ok (.bipush 10, 2) := by decide +kernel
theorem dX10_inverts_82 : decode cX10_inverts 82 = .ok (.bipush 9, 2) := by decide +kernel
theorem dX10_inverts_84 : decode cX10_inverts 84 = .ok (.bipush 11, 2) := by decide +kernel
theorem dX10_inverts_86 : decode cX10_inverts 86 = .ok (.invokevirtual 90, 3) := by decide +kernel
theorem dX10_inverts_89 : decode cX10_inverts 89 = .ok (.aload_n 0, 1) := by decide +kernel
theorem dX10_inverts_90 : decode cX10_inverts 90 = .ok (.bipush 11, 2) := by decide +kernel
theorem dX10_inverts_92 : decode cX10_inverts 92 = .ok (.bipush 8, 2) := by decide +kernel
theorem dX10_inverts_94 : decode cX10_inverts 94 = .ok (.aload_n 0, 1) := by decide +kernel
theorem dX10_inverts_95 : decode cX10_inverts 95 = .ok (.getfield 7, 3) := by decide +kernel
theorem dX10_inverts_98 : decode cX10_inverts 98 = .ok (.iconst 0, 1) := by decide +kernel
theorem dX10_inverts_99 : decode cX10_inverts 99 = .ok (.iaload, 1) := by decide +kernel
theorem dX10_inverts_100 : decode cX10_inverts 100 = .ok (.iconst 1, 1) := by decide +kernel
theorem dX10_inverts_101 : decode cX10_inverts 101 = .ok (.isub, 1) := by decide +kernel
theorem dX10_inverts_102 : decode cX10_inverts 102 = .ok (.invokevirtual 93, 3) := by decide +kernel
theorem dX10_inverts_105 : decode cX10_inverts 105 = .ok (.aload_n 0, 1) := by decide +kernel
theorem dX10_inverts_106 : decode cX10_inverts 106 = .ok (.bipush 8, 2) := by decide +kernel
theorem dX10_inverts_108 : decode cX10_inverts 108 = .ok (.bipush 11, 2) := by decide +kernel
theorem dX10_inverts_110 : decode cX10_inverts 110 = .ok (.invokevirtual 77, 3) := by decide +kernel
theorem dX10_inverts_113 : decode cX10_inverts 113 = .ok (.aload_n 0, 1) := by decide +kernel
theorem dX10_inverts_114 : decode cX10_inverts 114 = .ok (.bipush 9, 2) := by decide +kernel
theorem dX10_inverts_116 : decode cX10_inverts 116 = .ok (.bipush 8, 2) := by decide +kernel
theorem dX10_inverts_118 : decode cX10_inverts 118 = .ok (.invokevirtual 77, 3) := by decide +kernel
theorem dX10_inverts_121 : decode cX10_inverts 121 = .ok (.aload_n 0, 1) := by decide +kernel
theorem dX10_inverts_122 : decode cX10_inverts 122 = .ok (.bipush 11, 2) := by decide +kernel
theorem dX10_inverts_124 : decode cX10_inverts 124 = .ok (.bipush 9, 2) := by decide +kernel
theorem dX10_inverts_126 : decode cX10_inverts 126 = .ok (.invokevirtual 77, 3) := by decide +kernel
theorem dX10_inverts_129 : decode cX10_inverts 129 = .ok (.goto (-93), 3) := by decide +kernel
theorem dX10_inverts_132 : decode cX10_inverts 132 = .ok (.aload_n 0, 1) := by decide +kernel
theorem dX10_inverts_133 : decode cX10_inverts 133 = .ok (.aload_n 0, 1) := by decide +kernel
theorem dX10_inverts_134 : decode cX10_inverts 134 = .ok (.bipush 7, 2) := by decide +kernel
theorem dX10_inverts_136 : decode cX10_inverts 136 = .ok (.iconst 0, 1) := by decide +kernel
theorem dX10_inverts_137 : decode cX10_inverts 137 = .ok (.invokevirtual 55, 3) := by decide +kernel
theorem dX10_inverts_140 : decode cX10_inverts 140 = .ok (.invokevirtual 74, 3) := by decide +kernel
theorem dX10_inverts_143 : decode cX10_inverts 143 = .ok (.istore 4, 2) := by decide +kernel
theorem dX10_inverts_145 : decode cX10_inverts 145 = .ok (.aload_n 0, 1) := by decide +kernel
theorem dX10_inverts_146 : decode cX10_inverts 146 = .ok (.bipush 11, 2) := by decide +kernel
theorem dX10_inverts_148 : decode cX10_inverts 148 = .ok (.iload 4, 2) := by decide +kernel
theorem dX10_inverts_150 : decode cX10_inverts 150 = .ok (.invokevirtual 87, 3) := by decide +kernel
theorem dX10_inverts_153 : decode cX10_inverts 153 = .ok (.aload_n 0, 1) := by decide +kernel
theorem dX10_inverts_154 : decode cX10_inverts 154 = .ok (.bipush 9, 2) := by decide +kernel
theorem dX10_inverts_156 : decode cX10_inverts 156 = .ok (.bipush 11, 2) := by decide +kernel
theorem dX10_inverts_158 : decode cX10_inverts 158 = .ok (.iload_n 3, 1) := by decide +kernel
theorem dX10_inverts_159 : decode cX10_inverts 159 = .ok (.invokevirtual 90, 3) := by decide +kernel
theorem dX10_inverts_162 : decode cX10_inverts 162 = .ok (.aload_n 0, 1) := by decide +kernel
theorem dX10_inverts_163 : decode cX10_inverts 163 = .ok (.iload_n 3, 1) := by decide +kernel
theorem dX10_inverts_164 : decode cX10_inverts 164 = .ok (.iload_n 2, 1) := by decide +kernel
theorem dX10_inverts_165 : decode cX10_inverts 165 = .ok (.iconst (-1), 1) := by decide +kernel
theorem dX10_inverts_166 : decode cX10_inverts 166 = .ok (.invokevirtual 81, 3) := by decide +kernel
theorem dX10_inverts_169 : decode cX10_inverts 169 = .ok (.return_, 1) := by decide +kernel
theorem dX10_raises_0 : decode cX10_raises 0 = .ok (.aload_n 0, 1) := by decide +kernel
theorem dX10_raises_1 : decode cX10_raises 1 = .ok (.iload_n 1, 1) := by decide +kernel
theorem dX10_raises_2 : decode cX10_raises 2 = .ok (.bipush 14, 2) := by decide +kernel
theorem dX10_raises_4 : decode cX10_raises 4 = .ok (.invokevirtual 77, 3) := by decide +kernel
theorem dX10_raises_7 : decode cX10_raises 7 = .ok (.aload_n 0, 1) := by decide +kernel
theorem dX10_raises_8 : decode cX10_raises 8 = .ok (.bipush 14, 2) := by decide +kernel
theorem dX10_raises_10 : decode cX10_raises 10 = .ok (.iload_n 3, 1) := by decide +kernel
theorem dX10_raises_11 : decode cX10_raises 11 = .ok (.iconst (-1), 1) := by decide +kernel
theorem dX10_raises_12 : decode cX10_raises 12 = .ok (.invokevirtual 81, 3) := by decide +kernel
theorem dX10_raises_15 : decode cX10_raises 15 = .ok (.aload_n 0, 1) := by decide +kernel
theorem dX10_raises_16 : decode cX10_raises 16 = .ok (.bipush 15, 2) := by decide +kernel
theorem dX10_raises_18 : decode cX10_raises 18 = .ok (.iconst 1, 1) := by decide +kernel
theorem dX10_raises_19 : decode cX10_raises 19 = .ok (.invokevirtual 87, 3) := by decide +kernel
theorem dX10_raises_22 : decode cX10_raises 22 = .ok (.aload_n 0, 1) := by decide +kernel
theorem dX10_raises_23 : decode cX10_raises 23 = .ok (.bipush 15, 2) := by decide +kernel
theorem dX10_raises_25 : decode cX10_raises 25 = .ok (.iload_n 3, 1) := by decide +kernel
theorem dX10_raises_26 : decode cX10_raises 26 = .ok (.iconst (-1), 1) := by decide +kernel
theorem dX10_raises_27 : decode cX10_raises 27 = .ok (.invokevirtual 81, 3) := by decide +kernel
theorem dX10_raises_30 : decode cX10_raises 30 = .ok (.iload_n 2, 1) := by decide +kernel
theorem dX10_raises_31 : decode cX10_raises 31 = .ok (.istore 5, 2) := by decide +kernel
theorem dX10_raises_33 : decode cX10_raises 33 = .ok (.iload 5, 2) := by decide +kernel
theorem dX10_raises_35 : decode cX10_raises 35 = .ok (.ifCond .le 56, 3) := by decide +kernel
theorem dX10_raises_38 : decode cX10_raises 38 = .ok (.iload 5, 2) := by decide +kernel
theorem dX10_raises_40 : decode cX10_raises 40 = .ok (.iconst 2, 1) := by decide +kernel
theorem dX10_raises_41 : decode cX10_raises 41 = .ok (.irem, 1) := by decide +kernel
theorem dX10_raises_42 : decode cX10_raises 42 = .ok (.iconst 1, 1) := by decide +kernel
theorem dX10_raises_43 : decode cX10_raises 43 = .ok (.if_icmp .ne 21, 3) := by decide +kernel
theorem dX10_raises_46 : decode cX10_raises 46 = .ok (.aload_n 0, 1) := by decide +kernel
theorem dX10_raises_47 : decode cX10_raises 47 = .ok (.bipush 15, 2) := by decide +kernel
theorem dX10_raises_49 : decode cX10_raises 49 = .ok (.bipush 14, 2) := by decide +kernel
theorem dX10_raises_51 : decode cX10_raises 51 = .ok (.bipush 15, 2) := by decide +kernel
theorem dX10_raises_53 : decode cX10_raises 53 = .ok (.invokevirtual 90, 3) := by decide +kernel
theorem dX10_raises_56 : decode cX10_raises 56 = .ok (.aload_n 0, 1) := by decide +kernel
theorem dX10_raises_57 : decode cX10_raises 57 = .ok (.bipush 15, 2) := by decide +kernel
theorem dX10_raises_59 : decode cX10_raises 59 = .ok (.iload_n 3, 1) := by decide +kernel
theorem dX10_raises_60 : decode cX10_raises 60 = .ok (.iconst (-1), 1) := by decide +kernel
theorem dX10_raises_61 : decode cX10_raises 61 = .ok (.invokevirtual 81, 3) := by decide +kernel
theorem dX10_raises_64 : decode cX10_raises 64 = .ok (.aload_n 0, 1) := by decide +kernel
theorem dX10_raises_65 : decode cX10_raises 65 = .ok (.bipush 14, 2) := by decide +kernel
theorem dX10_raises_67 : decode cX10_raises 67 = .ok (.bipush 14, 2) := by decide +kernel
theorem dX10_raises_69 : decode cX10_raises 69 = .ok (.bipush 14, 2) := by decide +kernel
theorem dX10_raises_71 : decode cX10_raises 71 = .ok (.invokevirtual 90, 3) := by decide +kernel
theorem dX10_raises_74 : decode cX10_raises 74 = .ok (.aload_n 0, 1) := by decide +kernel
theorem dX10_raises_75 : decode cX10_raises 75 = .ok (.bipush 14, 2) := by decide +kernel
theorem dX10_raises_77 : decode cX10_raises 77 = .ok (.iload_n 3, 1) := by decide +kernel
theorem dX10_raises_78 : decode cX10_raises 78 = .ok (.iconst (-1), 1) := by decide +kernel
theorem dX10_raises_79 : decode cX10_raises 79 = .ok (.invokevirtual 81, 3) := by decide +kernel
theorem dX10_raises_82 : decode cX10_raises 82 = .ok (.iload 5, 2) := by decide +kernel
theorem dX10_raises_84 : decode cX10_raises 84 = .ok (.iconst 2, 1) := by decide +kernel
theorem dX10_raises_85 : decode cX10_raises 85 = .ok (.idiv, 1) := by decide +kernel
theorem dX10_raises_86 : decode cX10_raises 86 = .ok (.istore 5, 2) := by decide +kernel
theorem dX10_raises_88 : decode cX10_raises 88 = .ok (.goto (-55), 3) := by decide +kernel
theorem dX10_raises_91 : decode cX10_raises 91 = .ok (.aload_n 0, 1) := by decide +kernel
theorem dX10_raises_92 : decode cX10_raises 92 = .ok (.bipush 15, 2) := by decide +kernel
theorem dX10_raises_94 : decode cX10_raises 94 = .ok (.iload 4, 2) := by decide +kernel
theorem dX10_raises_96 : decode cX10_raises 96 = .ok (.invokevirtual 77, 3) := by decide +kernel
theorem dX10_raises_99 : decode cX10_raises 99 = .ok (.return_, 1) := by decide +kernel
theorem dX10_isBefore_0 : decode cX10_isBefore 0 = .ok (.bipush 6, 2) := by decide +kernel
theorem dX10_isBefore_2 : decode cX10_isBefore 2 = .ok (.istore_n 3, 1) := by decide +kernel
theorem dX10_isBefore_3 : decode cX10_isBefore 3 = .ok (.iload_n 3, 1) := by decide +kernel
theorem dX10_isBefore_4 : decode cX10_isBefore 4 = .ok (.ifCond .lt 61, 3) := by decide +kernel
theorem dX10_isBefore_7 : decode cX10_isBefore 7 = .ok (.aload_n 0, 1) := by decide +kernel
theorem dX10_isBefore_8 : decode cX10_isBefore 8 = .ok (.getfield 7, 3) := by decide +kernel
theorem dX10_isBefore_11 : decode cX10_isBefore 11 = .ok (.bipush 45, 2) := by decide +kernel
theorem dX10_isBefore_13 : decode cX10_isBefore 13 = .ok (.bipush 7, 2) := by decide +kernel
theorem dX10_isBefore_15 : decode cX10_isBefore 15 = .ok (.iload_n 1, 1) := by decide +kernel
theorem dX10_isBefore_16 : decode cX10_isBefore 16 = .ok (.imul, 1) := by decide +kernel
theorem dX10_isBefore_17 : decode cX10_isBefore 17 = .ok (.iadd, 1) := by decide +kernel
theorem dX10_isBefore_18 : decode cX10_isBefore 18 = .ok (.iload_n 3, 1) := by decide +kernel
theorem dX10_isBefore_19 : decode cX10_isBefore 19 = .ok (.iadd, 1) := by decide +kernel
theorem dX10_isBefore_20 : decode cX10_isBefore 20 = .ok (.iaload, 1) := by decide +kernel
theorem dX10_isBefore_21 : decode cX10_isBefore 21 = .ok (.istore 4, 2) := by decide +kernel
theorem dX10_isBefore_23 : decode cX10_isBefore 23 = .ok (.aload_n 0, 1) := by decide +kernel
theorem dX10_isBefore_24 : decode cX10_isBefore 24 = .ok (.getfield 7, 3) := by decide +kernel
theorem dX10_isBefore_27 : decode cX10_isBefore 27 = .ok (.bipush 45, 2) := by decide +kernel
theorem dX10_isBefore_29 : decode cX10_isBefore 29 = .ok (.bipush 7, 2) := by decide +kernel
theorem dX10_isBefore_31 : decode cX10_isBefore 31 = .ok (.iload_n 2, 1) := by decide +kernel
theorem dX10_isBefore_32 : decode cX10_isBefore 32 = .ok (.imul, 1) := by decide +kernel
theorem dX10_isBefore_33 : decode cX10_isBefore 33 = .ok (.iadd, 1) := by decide +kernel
theorem dX10_isBefore_34 : decode cX10_isBefore 34 = .ok (.iload_n 3, 1) := by decide +kernel
theorem dX10_isBefore_35 : decode cX10_isBefore 35 = .ok (.iadd, 1) := by decide +kernel
theorem dX10_isBefore_36 : decode cX10_isBefore 36 = .ok (.iaload, 1) := by decide +kernel
theorem dX10_isBefore_37 : decode cX10_isBefore 37 = .ok (.istore 5, 2) := by decide +kernel
theorem dX10_isBefore_39 : decode cX10_isBefore 39 = .ok (.iload 4, 2) := by decide +kernel
theorem dX10_isBefore_41 : decode cX10_isBefore 41 = .ok (.iload 5, 2) := by decide +kernel
theorem dX10_isBefore_43 : decode cX10_isBefore 43 = .ok (.if_icmp .eq 16, 3) := by decide +kernel
theorem dX10_isBefore_46 : decode cX10_isBefore 46 = .ok (.iload 4, 2) := by decide +kernel
theorem dX10_isBefore_48 : decode cX10_isBefore 48 = .ok (.iload 5, 2) := by decide +kernel
theorem dX10_isBefore_50 : decode cX10_isBefore 50 = .ok (.if_icmp .ge 7, 3) := by decide +kernel
theorem dX10_isBefore_53 : decode cX10_isBefore 53 = .ok (.iconst 1, 1) := by decide +kernel
theorem dX10_isBefore_54 : decode cX10_isBefore 54 = .ok (.goto 4, 3) := by decide +kernel
theorem dX10_isBefore_57 : decode cX10_isBefore 57 = .ok (.iconst 0, 1) := by decide +kernel
theorem dX10_isBefore_58 : decode cX10_isBefore 58 = .ok (.ireturn, 1) := by decide +kernel
theorem dX10_isBefore_59 : decode cX10_isBefore 59 = .ok (.iinc 3 (-1), 3) := by decide +kernel
theorem dX10_isBefore_62 : decode cX10_isBefore 62 = .ok (.goto (-59), 3) := by decide +kernel
theorem dX10_isBefore_65 : decode cX10_isBefore 65 = .ok (.iconst 0, 1) := by decide +kernel
theorem dX10_isBefore_66 : decode cX10_isBefore 66 = .ok (.ireturn, 1) := by decide +kernel
theorem dX10_swaps_0 : decode cX10_swaps 0 = .ok (.iconst 0, 1) := by decide +kernel
theorem dX10_swaps_1 : decode cX10_swaps 1 = .ok (.istore_n 3, 1) := by decide +kernel
theorem dX10_swaps_2 : decode cX10_swaps 2 = .ok (.iload_n 3, 1) := by decide +kernel
theorem dX10_swaps_3 : decode cX10_swaps 3 = .ok (.bipush 7, 2) := by decide +kernel
theorem dX10_swaps_5 : decode cX10_swaps 5 = .ok (.if_icmp .ge 69, 3) := by decide +kernel
theorem dX10_swaps_8 : decode cX10_swaps 8 = .ok (.aload_n 0, 1) := by decide +kernel
theorem dX10_swaps_9 : decode cX10_swaps 9 = .ok (.getfield 7, 3) := by decide +kernel
theorem dX10_swaps_12 : decode cX10_swaps 12 = .ok (.bipush 45, 2) := by decide +kernel
theorem dX10_swaps_14 : decode cX10_swaps 14 = .ok (.bipush 7, 2) := by decide +kernel
theorem dX10_swaps_16 : decode cX10_swaps 16 = .ok (.iload_n 1, 1) := by decide +kernel
theorem dX10_swaps_17 : decode cX10_swaps 17 = .ok (.imul, 1) := by decide +kernel
theorem dX10_swaps_18 : decode cX10_swaps 18 = .ok (.iadd, 1) := by decide +kernel
theorem dX10_swaps_19 : decode cX10_swaps 19 = .ok (.iload_n 3, 1) := by decide +kernel
theorem dX10_swaps_20 : decode cX10_swaps 20 = .ok (.iadd, 1) := by decide +kernel
theorem dX10_swaps_21 : decode cX10_swaps 21 = .ok (.iaload, 1) := by decide +kernel
theorem dX10_swaps_22 : decode cX10_swaps 22 = .ok (.istore 4, 2) := by decide +kernel
theorem dX10_swaps_24 : decode cX10_swaps 24 = .ok (.aload_n 0, 1) := by decide +kernel
theorem dX10_swaps_25 : decode cX10_swaps 25 = .ok (.getfield 7, 3) := by decide +kernel
theorem dX10_swaps_28 : decode cX10_swaps 28 = .ok (.bipush 45, 2) := by decide +kernel
theorem dX10_swaps_30 : decode cX10_swaps 30 = .ok (.bipush 7, 2) := by decide +kernel
theorem dX10_swaps_32 : decode cX10_swaps 32 = .ok (.iload_n 1, 1) := by decide +kernel
theorem dX10_swaps_33 : decode cX10_swaps 33 = .ok (.imul, 1) := by decide +kernel
theorem dX10_swaps_34 : decode cX10_swaps 34 = .ok (.iadd, 1) := by decide +kernel
theorem dX10_swaps_35 : decode cX10_swaps 35 = .ok (.iload_n 3, 1) := by decide +kernel
theorem dX10_swaps_36 : decode cX10_swaps 36 = .ok (.iadd, 1) := by decide +kernel
theorem dX10_swaps_37 : decode cX10_swaps 37 = .ok (.aload_n 0, 1) := by decide +kernel
theorem dX10_swaps_38 : decode cX10_swaps 38 = .ok (.getfield 7, 3) := by decide +kernel
theorem dX10_swaps_41 : decode cX10_swaps 41 = .ok (.bipush 45, 2) := by decide +kernel
theorem dX10_swaps_43 : decode cX10_swaps 43 = .ok (.bipush 7, 2) := by decide +kernel
theorem dX10_swaps_45 : decode cX10_swaps 45 = .ok (.iload_n 2, 1) := by decide +kernel
theorem dX10_swaps_46 : decode cX10_swaps 46 = .ok (.imul, 1) := by decide +kernel
theorem dX10_swaps_47 : decode cX10_swaps 47 = .ok (.iadd, 1) := by decide +kernel
theorem dX10_swaps_48 : decode cX10_swaps 48 = .ok (.iload_n 3, 1) := by decide +kernel
theorem dX10_swaps_49 : decode cX10_swaps 49 = .ok (.iadd, 1) := by decide +kernel
theorem dX10_swaps_50 : decode cX10_swaps 50 = .ok (.iaload, 1) := by decide +kernel
theorem dX10_swaps_51 : decode cX10_swaps 51 = .ok (.iastore, 1) := by decide +kernel
theorem dX10_swaps_52 : decode cX10_swaps 52 = .ok (.aload_n 0, 1) := by decide +kernel
theorem dX10_swaps_53 : decode cX10_swaps 53 = .ok (.getfield 7, 3) := by decide +kernel
theorem dX10_swaps_56 : decode cX10_swaps 56 = .ok (.bipush 45, 2) := by decide +kernel
theorem dX10_swaps_58 : decode cX10_swaps 58 = .ok (.bipush 7, 2) := by decide +kernel
theorem dX10_swaps_60 : decode cX10_swaps 60 = .ok (.iload_n 2, 1) := by decide +kernel
theorem dX10_swaps_61 : decode cX10_swaps 61 = .ok (.imul, 1) := by decide +kernel
theorem dX10_swaps_62 : decode cX10_swaps 62 = .ok (.iadd, 1) := by decide +kernel
theorem dX10_swaps_63 : decode cX10_swaps 63 = .ok (.iload_n 3, 1) := by decide +kernel
theorem dX10_swaps_64 : decode cX10_swaps 64 = .ok (.iadd, 1) := by decide +kernel
theorem dX10_swaps_65 : decode cX10_swaps 65 = .ok (.iload 4, 2) := by decide +kernel
theorem dX10_swaps_67 : decode cX10_swaps 67 = .ok (.iastore, 1) := by decide +kernel
theorem dX10_swaps_68 : decode cX10_swaps 68 = .ok (.iinc 3 1, 3) := by decide +kernel
theorem dX10_swaps_71 : decode cX10_swaps 71 = .ok (.goto (-69), 3) := by decide +kernel
theorem dX10_swaps_74 : decode cX10_swaps 74 = .ok (.return_, 1) := by decide +kernel
theorem dX10_sorts_0 : decode cX10_sorts 0 = .ok (.iconst 1, 1) := by decide +kernel
theorem dX10_sorts_1 : decode cX10_sorts 1 = .ok (.istore_n 1, 1) := by decide +kernel
theorem dX10_sorts_2 : decode cX10_sorts 2 = .ok (.iload_n 1, 1) := by decide +kernel
theorem dX10_sorts_3 : decode cX10_sorts 3 = .ok (.aload_n 0, 1) := by decide +kernel
theorem dX10_sorts_4 : decode cX10_sorts 4 = .ok (.getfield 7, 3) := by decide +kernel
theorem dX10_sorts_7 : decode cX10_sorts 7 = .ok (.bipush 44, 2) := by decide +kernel
theorem dX10_sorts_9 : decode cX10_sorts 9 = .ok (.iaload, 1) := by decide +kernel
theorem dX10_sorts_10 : decode cX10_sorts 10 = .ok (.if_icmp .ge 40, 3) := by decide +kernel
theorem dX10_sorts_13 : decode cX10_sorts 13 = .ok (.iload_n 1, 1) := by decide +kernel
theorem dX10_sorts_14 : decode cX10_sorts 14 = .ok (.istore_n 2, 1) := by decide +kernel
theorem dX10_sorts_15 : decode cX10_sorts 15 = .ok (.iload_n 2, 1) := by decide +kernel
theorem dX10_sorts_16 : decode cX10_sorts 16 = .ok (.ifCond .le 28, 3) := by decide +kernel
theorem dX10_sorts_19 : decode cX10_sorts 19 = .ok (.aload_n 0, 1) := by decide +kernel
theorem dX10_sorts_20 : decode cX10_sorts 20 = .ok (.iload_n 2, 1) := by decide +kernel
theorem dX10_sorts_21 : decode cX10_sorts 21 = .ok (.iload_n 2, 1) := by decide +kernel
theorem dX10_sorts_22 : decode cX10_sorts 22 = .ok (.iconst 1, 1) := by decide +kernel
theorem dX10_sorts_23 : decode cX10_sorts 23 = .ok (.isub, 1) := by decide +kernel
theorem dX10_sorts_24 : decode cX10_sorts 24 = .ok (.invokevirtual 96, 3) := by decide +kernel
theorem dX10_sorts_27 : decode cX10_sorts 27 = .ok (.ifCond .eq 17, 3) := by decide +kernel
theorem dX10_sorts_30 : decode cX10_sorts 30 = .ok (.aload_n 0, 1) := by decide +kernel
theorem dX10_sorts_31 : decode cX10_sorts 31 = .ok (.iload_n 2, 1) := by decide +kernel
theorem dX10_sorts_32 : decode cX10_sorts 32 = .ok (.iload_n 2, 1) := by decide +kernel
theorem dX10_sorts_33 : decode cX10_sorts 33 = .ok (.iconst 1, 1) := by decide +kernel
theorem dX10_sorts_34 : decode cX10_sorts 34 = .ok (.isub, 1) := by decide +kernel
theorem dX10_sorts_35 : decode cX10_sorts 35 = .ok (.invokevirtual 100, 3) := by decide +kernel
theorem dX10_sorts_38 : decode cX10_sorts 38 = .ok (.iinc 2 (-1), 3) := by decide +kernel
theorem dX10_sorts_41 : decode cX10_sorts 41 = .ok (.goto (-26), 3) := by decide +kernel
theorem dX10_sorts_44 : decode cX10_sorts 44 = .ok (.iinc 1 1, 3) := by decide +kernel
theorem dX10_sorts_47 : decode cX10_sorts 47 = .ok (.goto (-45), 3) := by decide +kernel
theorem dX10_sorts_50 : decode cX10_sorts 50 = .ok (.return_, 1) := by decide +kernel
theorem dX10_lays_0 : decode cX10_lays 0 = .ok (.iconst 0, 1) := by decide +kernel
theorem dX10_lays_1 : decode cX10_lays 1 = .ok (.istore_n 3, 1) := by decide +kernel
theorem dX10_lays_2 : decode cX10_lays 2 = .ok (.iload_n 3, 1) := by decide +kernel
theorem dX10_lays_3 : decode cX10_lays 3 = .ok (.bipush 7, 2) := by decide +kernel
theorem dX10_lays_5 : decode cX10_lays 5 = .ok (.if_icmp .ge 29, 3) := by decide +kernel
theorem dX10_lays_8 : decode cX10_lays 8 = .ok (.aload_n 0, 1) := by decide +kernel
theorem dX10_lays_9 : decode cX10_lays 9 = .ok (.getfield 7, 3) := by decide +kernel
theorem dX10_lays_12 : decode cX10_lays 12 = .ok (.bipush 45, 2) := by decide +kernel
theorem dX10_lays_14 : decode cX10_lays 14 = .ok (.bipush 7, 2) := by decide +kernel
theorem dX10_lays_16 : decode cX10_lays 16 = .ok (.iload_n 2, 1) := by decide +kernel
theorem dX10_lays_17 : decode cX10_lays 17 = .ok (.imul, 1) := by decide +kernel
theorem dX10_lays_18 : decode cX10_lays 18 = .ok (.iadd, 1) := by decide +kernel
theorem dX10_lays_19 : decode cX10_lays 19 = .ok (.iload_n 3, 1) := by decide +kernel
theorem dX10_lays_20 : decode cX10_lays 20 = .ok (.iadd, 1) := by decide +kernel
theorem dX10_lays_21 : decode cX10_lays 21 = .ok (.aload_n 0, 1) := by decide +kernel
theorem dX10_lays_22 : decode cX10_lays 22 = .ok (.iload_n 1, 1) := by decide +kernel
theorem dX10_lays_23 : decode cX10_lays 23 = .ok (.iload_n 3, 1) := by decide +kernel
theorem dX10_lays_24 : decode cX10_lays 24 = .ok (.invokevirtual 55, 3) := by decide +kernel
theorem dX10_lays_27 : decode cX10_lays 27 = .ok (.iastore, 1) := by decide +kernel
theorem dX10_lays_28 : decode cX10_lays 28 = .ok (.iinc 3 1, 3) := by decide +kernel
theorem dX10_lays_31 : decode cX10_lays 31 = .ok (.goto (-29), 3) := by decide +kernel
theorem dX10_lays_34 : decode cX10_lays 34 = .ok (.return_, 1) := by decide +kernel
theorem dX10_comes_0 : decode cX10_comes 0 = .ok (.aload_n 0, 1) := by decide +kernel
theorem dX10_comes_1 : decode cX10_comes 1 = .ok (.iload_n 1, 1) := by decide +kernel
theorem dX10_comes_2 : decode cX10_comes 2 = .ok (.aload_n 0, 1) := by decide +kernel
theorem dX10_comes_3 : decode cX10_comes 3 = .ok (.getfield 7, 3) := by decide +kernel
theorem dX10_comes_6 : decode cX10_comes 6 = .ok (.bipush 44, 2) := by decide +kernel
theorem dX10_comes_8 : decode cX10_comes 8 = .ok (.iaload, 1) := by decide +kernel
theorem dX10_comes_9 : decode cX10_comes 9 = .ok (.invokevirtual 103, 3) := by decide +kernel
theorem dX10_comes_12 : decode cX10_comes 12 = .ok (.aload_n 0, 1) := by decide +kernel
theorem dX10_comes_13 : decode cX10_comes 13 = .ok (.getfield 7, 3) := by decide +kernel
theorem dX10_comes_16 : decode cX10_comes 16 = .ok (.bipush 44, 2) := by decide +kernel
theorem dX10_comes_18 : decode cX10_comes 18 = .ok (.dup2, 1) := by decide +kernel
theorem dX10_comes_19 : decode cX10_comes 19 = .ok (.iaload, 1) := by decide +kernel
theorem dX10_comes_20 : decode cX10_comes 20 = .ok (.iconst 1, 1) := by decide +kernel
theorem dX10_comes_21 : decode cX10_comes 21 = .ok (.iadd, 1) := by decide +kernel
theorem dX10_comes_22 : decode cX10_comes 22 = .ok (.iastore, 1) := by decide +kernel
theorem dX10_comes_23 : decode cX10_comes 23 = .ok (.return_, 1) := by decide +kernel
theorem dX10_goes_0 : decode cX10_goes 0 = .ok (.aload_n 0, 1) := by decide +kernel
theorem dX10_goes_1 : decode cX10_goes 1 = .ok (.getfield 7, 3) := by decide +kernel
theorem dX10_goes_4 : decode cX10_goes 4 = .ok (.bipush 44, 2) := by decide +kernel
theorem dX10_goes_6 : decode cX10_goes 6 = .ok (.dup2, 1) := by decide +kernel
theorem dX10_goes_7 : decode cX10_goes 7 = .ok (.iaload, 1) := by decide +kernel
theorem dX10_goes_8 : decode cX10_goes 8 = .ok (.iconst 1, 1) := by decide +kernel
theorem dX10_goes_9 : decode cX10_goes 9 = .ok (.isub, 1) := by decide +kernel
theorem dX10_goes_10 : decode cX10_goes 10 = .ok (.iastore, 1) := by decide +kernel
theorem dX10_goes_11 : decode cX10_goes 11 = .ok (.aload_n 0, 1) := by decide +kernel
theorem dX10_goes_12 : decode cX10_goes 12 = .ok (.iload_n 1, 1) := by decide +kernel
theorem dX10_goes_13 : decode cX10_goes 13 = .ok (.aload_n 0, 1) := by decide +kernel
theorem dX10_goes_14 : decode cX10_goes 14 = .ok (.getfield 7, 3) := by decide +kernel
theorem dX10_goes_17 : decode cX10_goes 17 = .ok (.bipush 44, 2) := by decide +kernel
theorem dX10_goes_19 : decode cX10_goes 19 = .ok (.iaload, 1) := by decide +kernel
theorem dX10_goes_20 : decode cX10_goes 20 = .ok (.invokevirtual 100, 3) := by decide +kernel
theorem dX10_goes_23 : decode cX10_goes 23 = .ok (.return_, 1) := by decide +kernel
theorem dX10_parts_0 : decode cX10_parts 0 = .ok (.aload_n 0, 1) := by decide +kernel
theorem dX10_parts_1 : decode cX10_parts 1 = .ok (.getfield 7, 3) := by decide +kernel
theorem dX10_parts_4 : decode cX10_parts 4 = .ok (.bipush 44, 2) := by decide +kernel
theorem dX10_parts_6 : decode cX10_parts 6 = .ok (.iaload, 1) := by decide +kernel
theorem dX10_parts_7 : decode cX10_parts 7 = .ok (.istore_n 2, 1) := by decide +kernel
theorem dX10_parts_8 : decode cX10_parts 8 = .ok (.iconst 0, 1) := by decide +kernel
theorem dX10_parts_9 : decode cX10_parts 9 = .ok (.istore_n 3, 1) := by decide +kernel
theorem dX10_parts_10 : decode cX10_parts 10 = .ok (.iload_n 3, 1) := by decide +kernel
theorem dX10_parts_11 : decode cX10_parts 11 = .ok (.iload_n 2, 1) := by decide +kernel
theorem dX10_parts_12 : decode cX10_parts 12 = .ok (.if_icmp .ge 62, 3) := by decide +kernel
theorem dX10_parts_15 : decode cX10_parts 15 = .ok (.aload_n 0, 1) := by decide +kernel
theorem dX10_parts_16 : decode cX10_parts 16 = .ok (.iload_n 3, 1) := by decide +kernel
theorem dX10_parts_17 : decode cX10_parts 17 = .ok (.iconst 1, 1) := by decide +kernel
theorem dX10_parts_18 : decode cX10_parts 18 = .ok (.invokevirtual 106, 3) := by decide +kernel
theorem dX10_parts_21 : decode cX10_parts 21 = .ok (.aload_n 0, 1) := by decide +kernel
theorem dX10_parts_22 : decode cX10_parts 22 = .ok (.iconst 1, 1) := by decide +kernel
theorem dX10_parts_23 : decode cX10_parts 23 = .ok (.iload_n 1, 1) := by decide +kernel
theorem dX10_parts_24 : decode cX10_parts 24 = .ok (.iconst 4, 1) := by decide +kernel
theorem dX10_parts_25 : decode cX10_parts 25 = .ok (.invokevirtual 109, 3) := by decide +kernel
theorem dX10_parts_28 : decode cX10_parts 28 = .ok (.aload_n 0, 1) := by decide +kernel
theorem dX10_parts_29 : decode cX10_parts 29 = .ok (.iconst 4, 1) := by decide +kernel
theorem dX10_parts_30 : decode cX10_parts 30 = .ok (.invokevirtual 70, 3) := by decide +kernel
theorem dX10_parts_33 : decode cX10_parts 33 = .ok (.istore 4, 2) := by decide +kernel
theorem dX10_parts_35 : decode cX10_parts 35 = .ok (.iload 4, 2) := by decide +kernel
theorem dX10_parts_37 : decode cX10_parts 37 = .ok (.ifCond .le 31, 3) := by decide +kernel
theorem dX10_parts_40 : decode cX10_parts 40 = .ok (.iload 4, 2) := by decide +kernel
theorem dX10_parts_42 : decode cX10_parts 42 = .ok (.aload_n 0, 1) := by decide +kernel
theorem dX10_parts_43 : decode cX10_parts 43 = .ok (.iconst 1, 1) := by decide +kernel
theorem dX10_parts_44 : decode cX10_parts 44 = .ok (.invokevirtual 70, 3) := by decide +kernel
theorem dX10_parts_47 : decode cX10_parts 47 = .ok (.if_icmp .ge 21, 3) := by decide +kernel
theorem dX10_parts_50 : decode cX10_parts 50 = .ok (.aload_n 0, 1) := by decide +kernel
theorem dX10_parts_51 : decode cX10_parts 51 = .ok (.iconst 4, 1) := by decide +kernel
theorem dX10_parts_52 : decode cX10_parts 52 = .ok (.iload_n 3, 1) := by decide +kernel
theorem dX10_parts_53 : decode cX10_parts 53 = .ok (.invokevirtual 103, 3) := by decide +kernel
theorem dX10_parts_56 : decode cX10_parts 56 = .ok (.aload_n 0, 1) := by decide +kernel
theorem dX10_parts_57 : decode cX10_parts 57 = .ok (.iconst 1, 1) := by decide +kernel
theorem dX10_parts_58 : decode cX10_parts 58 = .ok (.iconst 4, 1) := by decide +kernel
theorem dX10_parts_59 : decode cX10_parts 59 = .ok (.iconst 5, 1) := by decide +kernel
theorem dX10_parts_60 : decode cX10_parts 60 = .ok (.invokevirtual 81, 3) := by decide +kernel
theorem dX10_parts_63 : decode cX10_parts 63 = .ok (.aload_n 0, 1) := by decide +kernel
theorem dX10_parts_64 : decode cX10_parts 64 = .ok (.iconst 5, 1) := by decide +kernel
theorem dX10_parts_65 : decode cX10_parts 65 = .ok (.invokevirtual 112, 3) := by decide +kernel
theorem dX10_parts_68 : decode cX10_parts 68 = .ok (.iinc 3 1, 3) := by decide +kernel
theorem dX10_parts_71 : decode cX10_parts 71 = .ok (.goto (-61), 3) := by decide +kernel
theorem dX10_parts_74 : decode cX10_parts 74 = .ok (.aload_n 0, 1) := by decide +kernel
theorem dX10_parts_75 : decode cX10_parts 75 = .ok (.invokevirtual 115, 3) := by decide +kernel
theorem dX10_parts_78 : decode cX10_parts 78 = .ok (.aload_n 0, 1) := by decide +kernel
theorem dX10_parts_79 : decode cX10_parts 79 = .ok (.getfield 7, 3) := by decide +kernel
theorem dX10_parts_82 : decode cX10_parts 82 = .ok (.bipush 44, 2) := by decide +kernel
theorem dX10_parts_84 : decode cX10_parts 84 = .ok (.iaload, 1) := by decide +kernel
theorem dX10_parts_85 : decode cX10_parts 85 = .ok (.iload_n 2, 1) := by decide +kernel
theorem dX10_parts_86 : decode cX10_parts 86 = .ok (.if_icmp .le 7, 3) := by decide +kernel
theorem dX10_parts_89 : decode cX10_parts 89 = .ok (.iconst 1, 1) := by decide +kernel
theorem dX10_parts_90 : decode cX10_parts 90 = .ok (.goto 4, 3) := by decide +kernel
theorem dX10_parts_93 : decode cX10_parts 93 = .ok (.iconst 0, 1) := by decide +kernel
theorem dX10_parts_94 : decode cX10_parts 94 = .ok (.ireturn, 1) := by decide +kernel
theorem dX10_kindIn_0 : decode cX10_kindIn 0 = .ok (.aload_n 0, 1) := by decide +kernel
theorem dX10_kindIn_1 : decode cX10_kindIn 1 = .ok (.iconst 1, 1) := by decide +kernel
theorem dX10_kindIn_2 : decode cX10_kindIn 2 = .ok (.iload_n 1, 1) := by decide +kernel
theorem dX10_kindIn_3 : decode cX10_kindIn 3 = .ok (.iconst 4, 1) := by decide +kernel
theorem dX10_kindIn_4 : decode cX10_kindIn 4 = .ok (.invokevirtual 109, 3) := by decide +kernel
theorem dX10_kindIn_7 : decode cX10_kindIn 7 = .ok (.aload_n 0, 1) := by decide +kernel
theorem dX10_kindIn_8 : decode cX10_kindIn 8 = .ok (.iconst 4, 1) := by decide +kernel
theorem dX10_kindIn_9 : decode cX10_kindIn 9 = .ok (.invokevirtual 70, 3) := by decide +kernel
theorem dX10_kindIn_12 : decode cX10_kindIn 12 = .ok (.aload_n 0, 1) := by decide +kernel
theorem dX10_kindIn_13 : decode cX10_kindIn 13 = .ok (.iconst 1, 1) := by decide +kernel
theorem dX10_kindIn_14 : decode cX10_kindIn 14 = .ok (.invokevirtual 70, 3) := by decide +kernel
theorem dX10_kindIn_17 : decode cX10_kindIn 17 = .ok (.if_icmp .ne 7, 3) := by decide +kernel
theorem dX10_kindIn_20 : decode cX10_kindIn 20 = .ok (.iconst 0, 1) := by decide +kernel
theorem dX10_kindIn_21 : decode cX10_kindIn 21 = .ok (.goto 16, 3) := by decide +kernel
theorem dX10_kindIn_24 : decode cX10_kindIn 24 = .ok (.aload_n 0, 1) := by decide +kernel
theorem dX10_kindIn_25 : decode cX10_kindIn 25 = .ok (.iconst 4, 1) := by decide +kernel
theorem dX10_kindIn_26 : decode cX10_kindIn 26 = .ok (.invokevirtual 70, 3) := by decide +kernel
theorem dX10_kindIn_29 : decode cX10_kindIn 29 = .ok (.ifCond .ne 7, 3) := by decide +kernel
theorem dX10_kindIn_32 : decode cX10_kindIn 32 = .ok (.iconst 1, 1) := by decide +kernel
theorem dX10_kindIn_33 : decode cX10_kindIn 33 = .ok (.goto 4, 3) := by decide +kernel
theorem dX10_kindIn_36 : decode cX10_kindIn 36 = .ok (.iconst 2, 1) := by decide +kernel
theorem dX10_kindIn_37 : decode cX10_kindIn 37 = .ok (.ireturn, 1) := by decide +kernel
theorem dX10_unitOf_0 : decode cX10_unitOf 0 = .ok (.aload_n 0, 1) := by decide +kernel
theorem dX10_unitOf_1 : decode cX10_unitOf 1 = .ok (.iconst 0, 1) := by decide +kernel
theorem dX10_unitOf_2 : decode cX10_unitOf 2 = .ok (.bipush 16, 2) := by decide +kernel
theorem dX10_unitOf_4 : decode cX10_unitOf 4 = .ok (.invokevirtual 77, 3) := by decide +kernel
theorem dX10_unitOf_7 : decode cX10_unitOf 7 = .ok (.aload_n 0, 1) := by decide +kernel
theorem dX10_unitOf_8 : decode cX10_unitOf 8 = .ok (.bipush 16, 2) := by decide +kernel
theorem dX10_unitOf_10 : decode cX10_unitOf 10 = .ok (.iconst 1, 1) := by decide +kernel
theorem dX10_unitOf_11 : decode cX10_unitOf 11 = .ok (.bipush 17, 2) := by decide +kernel
theorem dX10_unitOf_13 : decode cX10_unitOf 13 = .ok (.invokevirtual 81, 3) := by decide +kernel
theorem dX10_unitOf_16 : decode cX10_unitOf 16 = .ok (.aload_n 0, 1) := by decide +kernel
theorem dX10_unitOf_17 : decode cX10_unitOf 17 = .ok (.bipush 17, 2) := by decide +kernel
theorem dX10_unitOf_19 : decode cX10_unitOf 19 = .ok (.iconst 1, 1) := by decide +kernel
theorem dX10_unitOf_20 : decode cX10_unitOf 20 = .ok (.bipush 16, 2) := by decide +kernel
theorem dX10_unitOf_22 : decode cX10_unitOf 22 = .ok (.invokevirtual 118, 3) := by decide +kernel
theorem dX10_unitOf_25 : decode cX10_unitOf 25 = .ok (.aload_n 0, 1) := by decide +kernel
theorem dX10_unitOf_26 : decode cX10_unitOf 26 = .ok (.bipush 17, 2) := by decide +kernel
theorem dX10_unitOf_28 : decode cX10_unitOf 28 = .ok (.bipush 16, 2) := by decide +kernel
theorem dX10_unitOf_30 : decode cX10_unitOf 30 = .ok (.iload_n 1, 1) := by decide +kernel
theorem dX10_unitOf_31 : decode cX10_unitOf 31 = .ok (.invokevirtual 90, 3) := by decide +kernel
theorem dX10_unitOf_34 : decode cX10_unitOf 34 = .ok (.aload_n 0, 1) := by decide +kernel
theorem dX10_unitOf_35 : decode cX10_unitOf 35 = .ok (.iload_n 1, 1) := by decide +kernel
theorem dX10_unitOf_36 : decode cX10_unitOf 36 = .ok (.iconst 0, 1) := by decide +kernel
theorem dX10_unitOf_37 : decode cX10_unitOf 37 = .ok (.iconst (-1), 1) := by decide +kernel
theorem dX10_unitOf_38 : decode cX10_unitOf 38 = .ok (.invokevirtual 81, 3) := by decide +kernel
theorem dX10_unitOf_41 : decode cX10_unitOf 41 = .ok (.return_, 1) := by decide +kernel
theorem dX10_quotient_0 : decode cX10_quotient 0 = .ok (.aload_n 0, 1) := by decide +kernel
theorem dX10_quotient_1 : decode cX10_quotient 1 = .ok (.iload_n 2, 1) := by decide +kernel
theorem dX10_quotient_2 : decode cX10_quotient 2 = .ok (.invokevirtual 121, 3) := by decide +kernel
theorem dX10_quotient_5 : decode cX10_quotient 5 = .ok (.pop, 1) := by decide +kernel
theorem dX10_quotient_6 : decode cX10_quotient 6 = .ok (.aload_n 0, 1) := by decide +kernel
theorem dX10_quotient_7 : decode cX10_quotient 7 = .ok (.iconst 3, 1) := by decide +kernel
theorem dX10_quotient_8 : decode cX10_quotient 8 = .ok (.invokevirtual 63, 3) := by decide +kernel
theorem dX10_quotient_11 : decode cX10_quotient 11 = .ok (.iconst 0, 1) := by decide +kernel
theorem dX10_quotient_12 : decode cX10_quotient 12 = .ok (.istore 4, 2) := by decide +kernel
theorem dX10_quotient_14 : decode cX10_quotient 14 = .ok (.iload 4, 2) := by decide +kernel
theorem dX10_quotient_16 : decode cX10_quotient 16 = .ok (.aload_n 0, 1) := by decide +kernel
theorem dX10_quotient_17 : decode cX10_quotient 17 = .ok (.getfield 7, 3) := by decide +kernel
theorem dX10_quotient_20 : decode cX10_quotient 20 = .ok (.bipush 44, 2) := by decide +kernel
theorem dX10_quotient_22 : decode cX10_quotient 22 = .ok (.iaload, 1) := by decide +kernel
theorem dX10_quotient_23 : decode cX10_quotient 23 = .ok (.if_icmp .ge 78, 3) := by decide +kernel
theorem dX10_quotient_26 : decode cX10_quotient 26 = .ok (.aload_n 0, 1) := by decide +kernel
theorem dX10_quotient_27 : decode cX10_quotient 27 = .ok (.iload 4, 2) := by decide +kernel
theorem dX10_quotient_29 : decode cX10_quotient 29 = .ok (.iconst 1, 1) := by decide +kernel
theorem dX10_quotient_30 : decode cX10_quotient 30 = .ok (.invokevirtual 106, 3) := by decide +kernel
theorem dX10_quotient_33 : decode cX10_quotient 33 = .ok (.aload_n 0, 1) := by decide +kernel
theorem dX10_quotient_34 : decode cX10_quotient 34 = .ok (.iload_n 2, 1) := by decide +kernel
theorem dX10_quotient_35 : decode cX10_quotient 35 = .ok (.invokevirtual 125, 3) := by decide +kernel
theorem dX10_quotient_38 : decode cX10_quotient 38 = .ok (.iconst 1, 1) := by decide +kernel
theorem dX10_quotient_39 : decode cX10_quotient 39 = .ok (.if_icmp .ne 56, 3) := by decide +kernel
theorem dX10_quotient_42 : decode cX10_quotient 42 = .ok (.aload_n 0, 1) := by decide +kernel
theorem dX10_quotient_43 : decode cX10_quotient 43 = .ok (.iload_n 2, 1) := by decide +kernel
theorem dX10_quotient_44 : decode cX10_quotient 44 = .ok (.iconst 1, 1) := by decide +kernel
theorem dX10_quotient_45 : decode cX10_quotient 45 = .ok (.iconst 4, 1) := by decide +kernel
theorem dX10_quotient_46 : decode cX10_quotient 46 = .ok (.invokevirtual 118, 3) := by decide +kernel
theorem dX10_quotient_49 : decode cX10_quotient 49 = .ok (.aload_n 0, 1) := by decide +kernel
theorem dX10_quotient_50 : decode cX10_quotient 50 = .ok (.iconst 4, 1) := by decide +kernel
theorem dX10_quotient_51 : decode cX10_quotient 51 = .ok (.iload_n 1, 1) := by decide +kernel
theorem dX10_quotient_52 : decode cX10_quotient 52 = .ok (.iconst 4, 1) := by decide +kernel
theorem dX10_quotient_53 : decode cX10_quotient 53 = .ok (.invokevirtual 90, 3) := by decide +kernel
theorem dX10_quotient_56 : decode cX10_quotient 56 = .ok (.aload_n 0, 1) := by decide +kernel
theorem dX10_quotient_57 : decode cX10_quotient 57 = .ok (.iconst 4, 1) := by decide +kernel
theorem dX10_quotient_58 : decode cX10_quotient 58 = .ok (.iconst 1, 1) := by decide +kernel
theorem dX10_quotient_59 : decode cX10_quotient 59 = .ok (.iconst (-1), 1) := by decide +kernel
theorem dX10_quotient_60 : decode cX10_quotient 60 = .ok (.invokevirtual 81, 3) := by decide +kernel
theorem dX10_quotient_63 : decode cX10_quotient 63 = .ok (.aload_n 0, 1) := by decide +kernel
theorem dX10_quotient_64 : decode cX10_quotient 64 = .ok (.iconst 4, 1) := by decide +kernel
theorem dX10_quotient_65 : decode cX10_quotient 65 = .ok (.iconst 5, 1) := by decide +kernel
theorem dX10_quotient_66 : decode cX10_quotient 66 = .ok (.invokevirtual 77, 3) := by decide +kernel
theorem dX10_quotient_69 : decode cX10_quotient 69 = .ok (.aload_n 0, 1) := by decide +kernel
theorem dX10_quotient_70 : decode cX10_quotient 70 = .ok (.iconst 4, 1) := by decide +kernel
theorem dX10_quotient_71 : decode cX10_quotient 71 = .ok (.invokevirtual 128, 3) := by decide +kernel
theorem dX10_quotient_74 : decode cX10_quotient 74 = .ok (.aload_n 0, 1) := by decide +kernel
theorem dX10_quotient_75 : decode cX10_quotient 75 = .ok (.iconst 4, 1) := by decide +kernel
theorem dX10_quotient_76 : decode cX10_quotient 76 = .ok (.iconst 5, 1) := by decide +kernel
theorem dX10_quotient_77 : decode cX10_quotient 77 = .ok (.iconst 4, 1) := by decide +kernel
theorem dX10_quotient_78 : decode cX10_quotient 78 = .ok (.invokevirtual 90, 3) := by decide +kernel
theorem dX10_quotient_81 : decode cX10_quotient 81 = .ok (.aload_n 0, 1) := by decide +kernel
theorem dX10_quotient_82 : decode cX10_quotient 82 = .ok (.iconst 4, 1) := by decide +kernel
theorem dX10_quotient_83 : decode cX10_quotient 83 = .ok (.iconst 0, 1) := by decide +kernel
theorem dX10_quotient_84 : decode cX10_quotient 84 = .ok (.iconst (-1), 1) := by decide +kernel
theorem dX10_quotient_85 : decode cX10_quotient 85 = .ok (.invokevirtual 81, 3) := by decide +kernel
theorem dX10_quotient_88 : decode cX10_quotient 88 = .ok (.aload_n 0, 1) := by decide +kernel
theorem dX10_quotient_89 : decode cX10_quotient 89 = .ok (.iconst 4, 1) := by decide +kernel
theorem dX10_quotient_90 : decode cX10_quotient 90 = .ok (.iconst 3, 1) := by decide +kernel
theorem dX10_quotient_91 : decode cX10_quotient 91 = .ok (.iconst 1, 1) := by decide +kernel
theorem dX10_quotient_92 : decode cX10_quotient 92 = .ok (.invokevirtual 93, 3) := by decide +kernel
theorem dX10_quotient_95 : decode cX10_quotient 95 = .ok (.iinc 4 1, 3) := by decide +kernel
theorem dX10_quotient_98 : decode cX10_quotient 98 = .ok (.goto (-84), 3) := by decide +kernel
theorem dX10_quotient_101 : decode cX10_quotient 101 = .ok (.aload_n 0, 1) := by decide +kernel
theorem dX10_quotient_102 : decode cX10_quotient 102 = .ok (.iconst 3, 1) := by decide +kernel
theorem dX10_quotient_103 : decode cX10_quotient 103 = .ok (.iload_n 3, 1) := by decide +kernel
theorem dX10_quotient_104 : decode cX10_quotient 104 = .ok (.invokevirtual 77, 3) := by decide +kernel
theorem dX10_quotient_107 : decode cX10_quotient 107 = .ok (.return_, 1) := by decide +kernel
theorem dX10_setPrime_0 : decode cX10_setPrime 0 = .ok (.iload_n 1, 1) := by decide +kernel
theorem dX10_setPrime_1 : decode cX10_setPrime 1 = .ok (.iconst 2, 1) := by decide +kernel
theorem dX10_setPrime_2 : decode cX10_setPrime 2 = .ok (.if_icmp .eq 34, 3) := by decide +kernel
theorem dX10_setPrime_5 : decode cX10_setPrime 5 = .ok (.iload_n 1, 1) := by decide +kernel
theorem dX10_setPrime_6 : decode cX10_setPrime 6 = .ok (.iconst 3, 1) := by decide +kernel
theorem dX10_setPrime_7 : decode cX10_setPrime 7 = .ok (.if_icmp .eq 29, 3) := by decide +kernel
theorem dX10_setPrime_10 : decode cX10_setPrime 10 = .ok (.iload_n 1, 1) := by decide +kernel
theorem dX10_setPrime_11 : decode cX10_setPrime 11 = .ok (.iconst 5, 1) := by decide +kernel
theorem dX10_setPrime_12 : decode cX10_setPrime 12 = .ok (.if_icmp .eq 24, 3) := by decide +kernel
theorem dX10_setPrime_15 : decode cX10_setPrime 15 = .ok (.iload_n 1, 1) := by decide +kernel
theorem dX10_setPrime_16 : decode cX10_setPrime 16 = .ok (.bipush 7, 2) := by decide +kernel
theorem dX10_setPrime_18 : decode cX10_setPrime 18 = .ok (.if_icmp .eq 18, 3) := by decide +kernel
theorem dX10_setPrime_21 : decode cX10_setPrime 21 = .ok (.iload_n 1, 1) := by decide +kernel
theorem dX10_setPrime_22 : decode cX10_setPrime 22 = .ok (.bipush 11, 2) := by decide +kernel
theorem dX10_setPrime_24 : decode cX10_setPrime 24 = .ok (.if_icmp .eq 12, 3) := by decide +kernel
theorem dX10_setPrime_27 : decode cX10_setPrime 27 = .ok (.iload_n 1, 1) := by decide +kernel
theorem dX10_setPrime_28 : decode cX10_setPrime 28 = .ok (.bipush 13, 2) := by decide +kernel
theorem dX10_setPrime_30 : decode cX10_setPrime 30 = .ok (.if_icmp .eq 6, 3) := by decide +kernel
theorem dX10_setPrime_33 : decode cX10_setPrime 33 = .ok (.bipush (-2), 2) := by decide +kernel
theorem dX10_setPrime_35 : decode cX10_setPrime 35 = .ok (.ireturn, 1) := by decide +kernel
theorem dX10_setPrime_36 : decode cX10_setPrime 36 = .ok (.aload_n 0, 1) := by decide +kernel
theorem dX10_setPrime_37 : decode cX10_setPrime 37 = .ok (.getfield 7, 3) := by decide +kernel
theorem dX10_setPrime_40 : decode cX10_setPrime 40 = .ok (.iconst 0, 1) := by decide +kernel
theorem dX10_setPrime_41 : decode cX10_setPrime 41 = .ok (.iaload, 1) := by decide +kernel
theorem dX10_setPrime_42 : decode cX10_setPrime 42 = .ok (.istore_n 2, 1) := by decide +kernel
theorem dX10_setPrime_43 : decode cX10_setPrime 43 = .ok (.iload_n 2, 1) := by decide +kernel
theorem dX10_setPrime_44 : decode cX10_setPrime 44 = .ok (.iload_n 1, 1) := by decide +kernel
theorem dX10_setPrime_45 : decode cX10_setPrime 45 = .ok (.if_icmp .ne 6, 3) := by decide +kernel
theorem dX10_setPrime_48 : decode cX10_setPrime 48 = .ok (.bipush (-5), 2) := by decide +kernel
theorem dX10_setPrime_50 : decode cX10_setPrime 50 = .ok (.ireturn, 1) := by decide +kernel
theorem dX10_setPrime_51 : decode cX10_setPrime 51 = .ok (.aload_n 0, 1) := by decide +kernel
theorem dX10_setPrime_52 : decode cX10_setPrime 52 = .ok (.invokevirtual 131, 3) := by decide +kernel
theorem dX10_setPrime_55 : decode cX10_setPrime 55 = .ok (.aload_n 0, 1) := by decide +kernel
theorem dX10_setPrime_56 : decode cX10_setPrime 56 = .ok (.getfield 7, 3) := by decide +kernel
theorem dX10_setPrime_59 : decode cX10_setPrime 59 = .ok (.iconst 0, 1) := by decide +kernel
theorem dX10_setPrime_60 : decode cX10_setPrime 60 = .ok (.iload_n 1, 1) := by decide +kernel
theorem dX10_setPrime_61 : decode cX10_setPrime 61 = .ok (.iastore, 1) := by decide +kernel
theorem dX10_setPrime_62 : decode cX10_setPrime 62 = .ok (.aload_n 0, 1) := by decide +kernel
theorem dX10_setPrime_63 : decode cX10_setPrime 63 = .ok (.invokevirtual 44, 3) := by decide +kernel
theorem dX10_setPrime_66 : decode cX10_setPrime 66 = .ok (.iload_n 2, 1) := by decide +kernel
theorem dX10_setPrime_67 : decode cX10_setPrime 67 = .ok (.ireturn, 1) := by decide +kernel
theorem dX10_derives_0 : decode cX10_derives 0 = .ok (.aload_n 0, 1) := by decide +kernel
theorem dX10_derives_1 : decode cX10_derives 1 = .ok (.iload_n 2, 1) := by decide +kernel
theorem dX10_derives_2 : decode cX10_derives 2 = .ok (.invokevirtual 63, 3) := by decide +kernel
theorem dX10_derives_5 : decode cX10_derives 5 = .ok (.iconst 1, 1) := by decide +kernel
theorem dX10_derives_6 : decode cX10_derives 6 = .ok (.istore_n 3, 1) := by decide +kernel
theorem dX10_derives_7 : decode cX10_derives 7 = .ok (.iload_n 3, 1) := by decide +kernel
theorem dX10_derives_8 : decode cX10_derives 8 = .ok (.bipush 14, 2) := by decide +kernel
theorem dX10_derives_10 : decode cX10_derives 10 = .ok (.if_icmp .ge 32, 3) := by decide +kernel
theorem dX10_derives_13 : decode cX10_derives 13 = .ok (.aload_n 0, 1) := by decide +kernel
theorem dX10_derives_14 : decode cX10_derives 14 = .ok (.iload_n 2, 1) := by decide +kernel
theorem dX10_derives_15 : decode cX10_derives 15 = .ok (.iload_n 3, 1) := by decide +kernel
theorem dX10_derives_16 : decode cX10_derives 16 = .ok (.iconst 1, 1) := by decide +kernel
theorem dX10_derives_17 : decode cX10_derives 17 = .ok (.isub, 1) := by decide +kernel
theorem dX10_derives_18 : decode cX10_derives 18 = .ok (.aload_n 0, 1) := by decide +kernel
theorem dX10_derives_19 : decode cX10_derives 19 = .ok (.iload_n 1, 1) := by decide +kernel
theorem dX10_derives_20 : decode cX10_derives 20 = .ok (.iload_n 3, 1) := by decide +kernel
theorem dX10_derives_21 : decode cX10_derives 21 = .ok (.invokevirtual 55, 3) := by decide +kernel
theorem dX10_derives_24 : decode cX10_derives 24 = .ok (.iload_n 3, 1) := by decide +kernel
theorem dX10_derives_25 : decode cX10_derives 25 = .ok (.imul, 1) := by decide +kernel
theorem dX10_derives_26 : decode cX10_derives 26 = .ok (.aload_n 0, 1) := by decide +kernel
theorem dX10_derives_27 : decode cX10_derives 27 = .ok (.getfield 7, 3) := by decide +kernel
theorem dX10_derives_30 : decode cX10_derives 30 = .ok (.iconst 0, 1) := by decide +kernel
theorem dX10_derives_31 : decode cX10_derives 31 = .ok (.iaload, 1) := by decide +kernel
theorem dX10_derives_32 : decode cX10_derives 32 = .ok (.irem, 1) := by decide +kernel
theorem dX10_derives_33 : decode cX10_derives 33 = .ok (.invokevirtual 59, 3) := by decide +kernel
theorem dX10_derives_36 : decode cX10_derives 36 = .ok (.iinc 3 1, 3) := by decide +kernel
theorem dX10_derives_39 : decode cX10_derives 39 = .ok (.goto (-32), 3) := by decide +kernel
theorem dX10_derives_42 : decode cX10_derives 42 = .ok (.return_, 1) := by decide +kernel
theorem dX10_readModulus_0 : decode cX10_readModulus 0 = .ok (.aload_n 0, 1) := by decide +kernel
theorem dX10_readModulus_1 : decode cX10_readModulus 1 = .ok (.invokevirtual 134, 3) := by decide +kernel
theorem dX10_readModulus_4 : decode cX10_readModulus 4 = .ok (.istore_n 1, 1) := by decide +kernel
theorem dX10_readModulus_5 : decode cX10_readModulus 5 = .ok (.iload_n 1, 1) := by decide +kernel
theorem dX10_readModulus_6 : decode cX10_readModulus 6 = .ok (.bipush (-5), 2) := by decide +kernel
theorem dX10_readModulus_8 : decode cX10_readModulus 8 = .ok (.if_icmp .ne 11, 3) := by decide +kernel
theorem dX10_readModulus_11 : decode cX10_readModulus 11 = .ok (.bipush (-100), 2) := by decide +kernel
theorem dX10_readModulus_13 : decode cX10_readModulus 13 = .ok (.aload_n 0, 1) := by decide +kernel
theorem dX10_readModulus_14 : decode cX10_readModulus 14 = .ok (.getfield 138, 3) := by decide +kernel
theorem dX10_readModulus_17 : decode cX10_readModulus 17 = .ok (.isub, 1) := by decide +kernel
theorem dX10_readModulus_18 : decode cX10_readModulus 18 = .ok (.ireturn, 1) := by decide +kernel
theorem dX10_readModulus_19 : decode cX10_readModulus 19 = .ok (.aload_n 0, 1) := by decide +kernel
theorem dX10_readModulus_20 : decode cX10_readModulus 20 = .ok (.iconst 2, 1) := by decide +kernel
theorem dX10_readModulus_21 : decode cX10_readModulus 21 = .ok (.invokevirtual 63, 3) := by decide +kernel
theorem dX10_readModulus_24 : decode cX10_readModulus 24 = .ok (.iload_n 1, 1) := by decide +kernel
theorem dX10_readModulus_25 : decode cX10_readModulus 25 = .ok (.iconst 1, 1) := by decide +kernel
theorem dX10_readModulus_26 : decode cX10_readModulus 26 = .ok (.if_icmp .eq 15, 3) := by decide +kernel
theorem dX10_readModulus_29 : decode cX10_readModulus 29 = .ok (.aload_n 0, 1) := by decide +kernel
theorem dX10_readModulus_30 : decode cX10_readModulus 30 = .ok (.getfield 32, 3) := by decide +kernel
theorem dX10_readModulus_33 : decode cX10_readModulus 33 = .ok (.iload_n 1, 1) := by decide +kernel
theorem dX10_readModulus_34 : decode cX10_readModulus 34 = .ok (.iconst 1, 1) := by decide +kernel
theorem dX10_readModulus_35 : decode cX10_readModulus 35 = .ok (.isub, 1) := by decide +kernel
theorem dX10_readModulus_36 : decode cX10_readModulus 36 = .ok (.iaload, 1) := by decide +kernel
theorem dX10_readModulus_37 : decode cX10_readModulus 37 = .ok (.iconst 1, 1) := by decide +kernel
theorem dX10_readModulus_38 : decode cX10_readModulus 38 = .ok (.if_icmp .eq 7, 3) := by decide +kernel
theorem dX10_readModulus_41 : decode cX10_readModulus 41 = .ok (.iconst 1, 1) := by decide +kernel
theorem dX10_readModulus_42 : decode cX10_readModulus 42 = .ok (.goto 4, 3) := by decide +kernel
theorem dX10_readModulus_45 : decode cX10_readModulus 45 = .ok (.iconst 0, 1) := by decide +kernel
theorem dX10_readModulus_46 : decode cX10_readModulus 46 = .ok (.istore_n 2, 1) := by decide +kernel
theorem dX10_readModulus_47 : decode cX10_readModulus 47 = .ok (.iconst 0, 1) := by decide +kernel
theorem dX10_readModulus_48 : decode cX10_readModulus 48 = .ok (.istore_n 3, 1) := by decide +kernel
theorem dX10_readModulus_49 : decode cX10_readModulus 49 = .ok (.iload_n 3, 1) := by decide +kernel
theorem dX10_readModulus_50 : decode cX10_readModulus 50 = .ok (.iload_n 1, 1) := by decide +kernel
theorem dX10_readModulus_51 : decode cX10_readModulus 51 = .ok (.if_icmp .ge 51, 3) := by decide +kernel
theorem dX10_readModulus_54 : decode cX10_readModulus 54 = .ok (.iload_n 2, 1) := by decide +kernel
theorem dX10_readModulus_55 : decode cX10_readModulus 55 = .ok (.aload_n 0, 1) := by decide +kernel
theorem dX10_readModulus_56 : decode cX10_readModulus 56 = .ok (.getfield 32, 3) := by decide +kernel
theorem dX10_readModulus_59 : decode cX10_readModulus 59 = .ok (.iload_n 3, 1) := by decide +kernel
theorem dX10_readModulus_60 : decode cX10_readModulus 60 = .ok (.iaload, 1) := by decide +kernel
theorem dX10_readModulus_61 : decode cX10_readModulus 61 = .ok (.aload_n 0, 1) := by decide +kernel
theorem dX10_readModulus_62 : decode cX10_readModulus 62 = .ok (.getfield 7, 3) := by decide +kernel
theorem dX10_readModulus_65 : decode cX10_readModulus 65 = .ok (.iconst 0, 1) := by decide +kernel
theorem dX10_readModulus_66 : decode cX10_readModulus 66 = .ok (.iaload, 1) := by decide +kernel
theorem dX10_readModulus_67 : decode cX10_readModulus 67 = .ok (.if_icmp .lt 7, 3) := by decide +kernel
theorem dX10_readModulus_70 : decode cX10_readModulus 70 = .ok (.iconst 1, 1) := by decide +kernel
theorem dX10_readModulus_71 : decode cX10_readModulus 71 = .ok (.goto 4, 3) := by decide +kernel
theorem dX10_readModulus_74 : decode cX10_readModulus 74 = .ok (.iconst 0, 1) := by decide +kernel
theorem dX10_readModulus_75 : decode cX10_readModulus 75 = .ok (.ior, 1) := by decide +kernel
theorem dX10_readModulus_76 : decode cX10_readModulus 76 = .ok (.istore_n 2, 1) := by decide +kernel
theorem dX10_readModulus_77 : decode cX10_readModulus 77 = .ok (.aload_n 0, 1) := by decide +kernel
theorem dX10_readModulus_78 : decode cX10_readModulus 78 = .ok (.iconst 2, 1) := by decide +kernel
theorem dX10_readModulus_79 : decode cX10_readModulus 79 = .ok (.iload_n 3, 1) := by decide +kernel
theorem dX10_readModulus_80 : decode cX10_readModulus 80 = .ok (.aload_n 0, 1) := by decide +kernel
theorem dX10_readModulus_81 : decode cX10_readModulus 81 = .ok (.getfield 32, 3) := by decide +kernel
theorem dX10_readModulus_84 : decode cX10_readModulus 84 = .ok (.iload_n 3, 1) := by decide +kernel
theorem dX10_readModulus_85 : decode cX10_readModulus 85 = .ok (.iaload, 1) := by decide +kernel
theorem dX10_readModulus_86 : decode cX10_readModulus 86 = .ok (.aload_n 0, 1) := by decide +kernel
theorem dX10_readModulus_87 : decode cX10_readModulus 87 = .ok (.getfield 7, 3) := by decide +kernel
theorem dX10_readModulus_90 : decode cX10_readModulus 90 = .ok (.iconst 0, 1) := by decide +kernel
theorem dX10_readModulus_91 : decode cX10_readModulus 91 = .ok (.iaload, 1) := by decide +kernel
theorem dX10_readModulus_92 : decode cX10_readModulus 92 = .ok (.irem, 1) := by decide +kernel
theorem dX10_readModulus_93 : decode cX10_readModulus 93 = .ok (.invokevirtual 59, 3) := by decide +kernel
theorem dX10_readModulus_96 : decode cX10_readModulus 96 = .ok (.iinc 3 1, 3) := by decide +kernel
theorem dX10_readModulus_99 : decode cX10_readModulus 99 = .ok (.goto (-50), 3) := by decide +kernel
theorem dX10_readModulus_102 : decode cX10_readModulus 102 = .ok (.iload_n 2, 1) := by decide +kernel
theorem dX10_readModulus_103 : decode cX10_readModulus 103 = .ok (.ifCond .eq 6, 3) := by decide +kernel
theorem dX10_readModulus_106 : decode cX10_readModulus 106 = .ok (.bipush (-2), 2) := by decide +kernel
theorem dX10_readModulus_108 : decode cX10_readModulus 108 = .ok (.ireturn, 1) := by decide +kernel
theorem dX10_readModulus_109 : decode cX10_readModulus 109 = .ok (.aload_n 0, 1) := by decide +kernel
theorem dX10_readModulus_110 : decode cX10_readModulus 110 = .ok (.iconst 2, 1) := by decide +kernel
theorem dX10_readModulus_111 : decode cX10_readModulus 111 = .ok (.iconst 3, 1) := by decide +kernel
theorem dX10_readModulus_112 : decode cX10_readModulus 112 = .ok (.invokevirtual 141, 3) := by decide +kernel
theorem dX10_readModulus_115 : decode cX10_readModulus 115 = .ok (.aload_n 0, 1) := by decide +kernel
theorem dX10_readModulus_116 : decode cX10_readModulus 116 = .ok (.iconst 2, 1) := by decide +kernel
theorem dX10_readModulus_117 : decode cX10_readModulus 117 = .ok (.iconst 3, 1) := by decide +kernel
theorem dX10_readModulus_118 : decode cX10_readModulus 118 = .ok (.iconst 4, 1) := by decide +kernel
theorem dX10_readModulus_119 : decode cX10_readModulus 119 = .ok (.invokevirtual 109, 3) := by decide +kernel
theorem dX10_readModulus_122 : decode cX10_readModulus 122 = .ok (.aload_n 0, 1) := by decide +kernel
theorem dX10_readModulus_123 : decode cX10_readModulus 123 = .ok (.iconst 4, 1) := by decide +kernel
theorem dX10_readModulus_124 : decode cX10_readModulus 124 = .ok (.invokevirtual 70, 3) := by decide +kernel
theorem dX10_readModulus_127 : decode cX10_readModulus 127 = .ok (.ifCond .le 6, 3) := by decide +kernel
theorem dX10_readModulus_130 : decode cX10_readModulus 130 = .ok (.bipush (-4), 2) := by decide +kernel
theorem dX10_readModulus_132 : decode cX10_readModulus 132 = .ok (.ireturn, 1) := by decide +kernel
theorem dX10_readModulus_133 : decode cX10_readModulus 133 = .ok (.iconst 1, 1) := by decide +kernel
theorem dX10_readModulus_134 : decode cX10_readModulus 134 = .ok (.istore_n 3, 1) := by decide +kernel
theorem dX10_readModulus_135 : decode cX10_readModulus 135 = .ok (.iconst 0, 1) := by decide +kernel
theorem dX10_readModulus_136 : decode cX10_readModulus 136 = .ok (.istore 4, 2) := by decide +kernel
theorem dX10_readModulus_138 : decode cX10_readModulus 138 = .ok (.iload 4, 2) := by decide +kernel
theorem dX10_readModulus_140 : decode cX10_readModulus 140 = .ok (.bipush 7, 2) := by decide +kernel
theorem dX10_readModulus_142 : decode cX10_readModulus 142 = .ok (.if_icmp .ge 36, 3) := by decide +kernel
theorem dX10_readModulus_145 : decode cX10_readModulus 145 = .ok (.iload_n 3, 1) := by decide +kernel
theorem dX10_readModulus_146 : decode cX10_readModulus 146 = .ok (.aload_n 0, 1) := by decide +kernel
theorem dX10_readModulus_147 : decode cX10_readModulus 147 = .ok (.getfield 7, 3) := by decide +kernel
theorem dX10_readModulus_150 : decode cX10_readModulus 150 = .ok (.iconst 1, 1) := by decide +kernel
theorem dX10_readModulus_151 : decode cX10_readModulus 151 = .ok (.iload 4, 2) := by decide +kernel
theorem dX10_readModulus_153 : decode cX10_readModulus 153 = .ok (.iadd, 1) := by decide +kernel
theorem dX10_readModulus_154 : decode cX10_readModulus 154 = .ok (.iaload, 1) := by decide +kernel
theorem dX10_readModulus_155 : decode cX10_readModulus 155 = .ok (.aload_n 0, 1) := by decide +kernel
theorem dX10_readModulus_156 : decode cX10_readModulus 156 = .ok (.iconst 2, 1) := by decide +kernel
theorem dX10_readModulus_157 : decode cX10_readModulus 157 = .ok (.iload 4, 2) := by decide +kernel
theorem dX10_readModulus_159 : decode cX10_readModulus 159 = .ok (.invokevirtual 55, 3) := by decide +kernel
theorem dX10_readModulus_162 : decode cX10_readModulus 162 = .ok (.if_icmp .ne 7, 3) := by decide +kernel
theorem dX10_readModulus_165 : decode cX10_readModulus 165 = .ok (.iconst 1, 1) := by decide +kernel
theorem dX10_readModulus_166 : decode cX10_readModulus 166 = .ok (.goto 4, 3) := by decide +kernel
theorem dX10_readModulus_169 : decode cX10_readModulus 169 = .ok (.iconst 0, 1) := by decide +kernel
theorem dX10_readModulus_170 : decode cX10_readModulus 170 = .ok (.iand, 1) := by decide +kernel
theorem dX10_readModulus_171 : decode cX10_readModulus 171 = .ok (.istore_n 3, 1) := by decide +kernel
theorem dX10_readModulus_172 : decode cX10_readModulus 172 = .ok (.iinc 4 1, 3) := by decide +kernel
theorem dX10_readModulus_175 : decode cX10_readModulus 175 = .ok (.goto (-37), 3) := by decide +kernel
theorem dX10_readModulus_178 : decode cX10_readModulus 178 = .ok (.iload_n 3, 1) := by decide +kernel
theorem dX10_readModulus_179 : decode cX10_readModulus 179 = .ok (.ifCond .eq 6, 3) := by decide +kernel
theorem dX10_readModulus_182 : decode cX10_readModulus 182 = .ok (.bipush (-5), 2) := by decide +kernel
theorem dX10_readModulus_184 : decode cX10_readModulus 184 = .ok (.ireturn, 1) := by decide +kernel
theorem dX10_readModulus_185 : decode cX10_readModulus 185 = .ok (.aload_n 0, 1) := by decide +kernel
theorem dX10_readModulus_186 : decode cX10_readModulus 186 = .ok (.invokevirtual 131, 3) := by decide +kernel
theorem dX10_readModulus_189 : decode cX10_readModulus 189 = .ok (.iconst 0, 1) := by decide +kernel
theorem dX10_readModulus_190 : decode cX10_readModulus 190 = .ok (.istore 4, 2) := by decide +kernel
theorem dX10_readModulus_192 : decode cX10_readModulus 192 = .ok (.iload 4, 2) := by decide +kernel
theorem dX10_readModulus_194 : decode cX10_readModulus 194 = .ok (.bipush 7, 2) := by decide +kernel
theorem dX10_readModulus_196 : decode cX10_readModulus 196 = .ok (.if_icmp .ge 25, 3) := by decide +kernel
theorem dX10_readModulus_199 : decode cX10_readModulus 199 = .ok (.aload_n 0, 1) := by decide +kernel
theorem dX10_readModulus_200 : decode cX10_readModulus 200 = .ok (.getfield 7, 3) := by decide +kernel
theorem dX10_readModulus_203 : decode cX10_readModulus 203 = .ok (.iconst 1, 1) := by decide +kernel
theorem dX10_readModulus_204 : decode cX10_readModulus 204 = .ok (.iload 4, 2) := by decide +kernel
theorem dX10_readModulus_206 : decode cX10_readModulus 206 = .ok (.iadd, 1) := by decide +kernel
theorem dX10_readModulus_207 : decode cX10_readModulus 207 = .ok (.aload_n 0, 1) := by decide +kernel
theorem dX10_readModulus_208 : decode cX10_readModulus 208 = .ok (.iconst 2, 1) := by decide +kernel
theorem dX10_readModulus_209 : decode cX10_readModulus 209 = .ok (.iload 4, 2) := by decide +kernel
theorem dX10_readModulus_211 : decode cX10_readModulus 211 = .ok (.invokevirtual 55, 3) := by decide +kernel
theorem dX10_readModulus_214 : decode cX10_readModulus 214 = .ok (.iastore, 1) := by decide +kernel
theorem dX10_readModulus_215 : decode cX10_readModulus 215 = .ok (.iinc 4 1, 3) := by decide +kernel
theorem dX10_readModulus_218 : decode cX10_readModulus 218 = .ok (.goto (-26), 3) := by decide +kernel
theorem dX10_readModulus_221 : decode cX10_readModulus 221 = .ok (.iconst 0, 1) := by decide +kernel
theorem dX10_readModulus_222 : decode cX10_readModulus 222 = .ok (.istore 4, 2) := by decide +kernel
theorem dX10_readModulus_224 : decode cX10_readModulus 224 = .ok (.iload 4, 2) := by decide +kernel
theorem dX10_readModulus_226 : decode cX10_readModulus 226 = .ok (.bipush 6, 2) := by decide +kernel
theorem dX10_readModulus_228 : decode cX10_readModulus 228 = .ok (.if_icmp .ge 30, 3) := by decide +kernel
theorem dX10_readModulus_231 : decode cX10_readModulus 231 = .ok (.aload_n 0, 1) := by decide +kernel
theorem dX10_readModulus_232 : decode cX10_readModulus 232 = .ok (.iload 4, 2) := by decide +kernel
theorem dX10_readModulus_234 : decode cX10_readModulus 234 = .ok (.iconst 3, 1) := by decide +kernel
theorem dX10_readModulus_235 : decode cX10_readModulus 235 = .ok (.invokevirtual 144, 3) := by decide +kernel
theorem dX10_readModulus_238 : decode cX10_readModulus 238 = .ok (.aload_n 0, 1) := by decide +kernel
theorem dX10_readModulus_239 : decode cX10_readModulus 239 = .ok (.iconst 3, 1) := by decide +kernel
theorem dX10_readModulus_240 : decode cX10_readModulus 240 = .ok (.iconst 2, 1) := by decide +kernel
theorem dX10_readModulus_241 : decode cX10_readModulus 241 = .ok (.iconst (-1), 1) := by decide +kernel
theorem dX10_readModulus_242 : decode cX10_readModulus 242 = .ok (.invokevirtual 81, 3) := by decide +kernel
theorem dX10_readModulus_245 : decode cX10_readModulus 245 = .ok (.aload_n 0, 1) := by decide +kernel
theorem dX10_readModulus_246 : decode cX10_readModulus 246 = .ok (.iconst 3, 1) := by decide +kernel
theorem dX10_readModulus_247 : decode cX10_readModulus 247 = .ok (.iload 4, 2) := by decide +kernel
theorem dX10_readModulus_249 : decode cX10_readModulus 249 = .ok (.invokevirtual 147, 3) := by decide +kernel
theorem dX10_readModulus_252 : decode cX10_readModulus 252 = .ok (.iinc 4 1, 3) := by decide +kernel
theorem dX10_readModulus_255 : decode cX10_readModulus 255 = .ok (.goto (-31), 3) := by decide +kernel
theorem dX10_readModulus_258 : decode cX10_readModulus 258 = .ok (.aload_n 0, 1) := by decide +kernel
theorem dX10_readModulus_259 : decode cX10_readModulus 259 = .ok (.getfield 7, 3) := by decide +kernel
theorem dX10_readModulus_262 : decode cX10_readModulus 262 = .ok (.bipush 44, 2) := by decide +kernel
theorem dX10_readModulus_264 : decode cX10_readModulus 264 = .ok (.iconst 0, 1) := by decide +kernel
theorem dX10_readModulus_265 : decode cX10_readModulus 265 = .ok (.iastore, 1) := by decide +kernel
theorem dX10_readModulus_266 : decode cX10_readModulus 266 = .ok (.aload_n 0, 1) := by decide +kernel
theorem dX10_readModulus_267 : decode cX10_readModulus 267 = .ok (.iconst 2, 1) := by decide +kernel
theorem dX10_readModulus_268 : decode cX10_readModulus 268 = .ok (.invokevirtual 112, 3) := by decide +kernel
theorem dX10_readModulus_271 : decode cX10_readModulus 271 = .ok (.iload_n 1, 1) := by decide +kernel
theorem dX10_readModulus_272 : decode cX10_readModulus 272 = .ok (.iconst 1, 1) := by decide +kernel
theorem dX10_readModulus_273 : decode cX10_readModulus 273 = .ok (.isub, 1) := by decide +kernel
theorem dX10_readModulus_274 : decode cX10_readModulus 274 = .ok (.ireturn, 1) := by decide +kernel
theorem dX10_stores_0 : decode cX10_stores 0 = .ok (.iconst 0, 1) := by decide +kernel
theorem dX10_stores_1 : decode cX10_stores 1 = .ok (.istore_n 3, 1) := by decide +kernel
theorem dX10_stores_2 : decode cX10_stores 2 = .ok (.iload_n 3, 1) := by decide +kernel
theorem dX10_stores_3 : decode cX10_stores 3 = .ok (.bipush 6, 2) := by decide +kernel
theorem dX10_stores_5 : decode cX10_stores 5 = .ok (.if_icmp .ge 29, 3) := by decide +kernel
theorem dX10_stores_8 : decode cX10_stores 8 = .ok (.aload_n 0, 1) := by decide +kernel
theorem dX10_stores_9 : decode cX10_stores 9 = .ok (.getfield 7, 3) := by decide +kernel
theorem dX10_stores_12 : decode cX10_stores 12 = .ok (.bipush 8, 2) := by decide +kernel
theorem dX10_stores_14 : decode cX10_stores 14 = .ok (.bipush 6, 2) := by decide +kernel
theorem dX10_stores_16 : decode cX10_stores 16 = .ok (.iload_n 2, 1) := by decide +kernel
theorem dX10_stores_17 : decode cX10_stores 17 = .ok (.imul, 1) := by decide +kernel
theorem dX10_stores_18 : decode cX10_stores 18 = .ok (.iadd, 1) := by decide +kernel
theorem dX10_stores_19 : decode cX10_stores 19 = .ok (.iload_n 3, 1) := by decide +kernel
theorem dX10_stores_20 : decode cX10_stores 20 = .ok (.iadd, 1) := by decide +kernel
theorem dX10_stores_21 : decode cX10_stores 21 = .ok (.aload_n 0, 1) := by decide +kernel
theorem dX10_stores_22 : decode cX10_stores 22 = .ok (.iload_n 1, 1) := by decide +kernel
theorem dX10_stores_23 : decode cX10_stores 23 = .ok (.iload_n 3, 1) := by decide +kernel
theorem dX10_stores_24 : decode cX10_stores 24 = .ok (.invokevirtual 55, 3) := by decide +kernel
theorem dX10_stores_27 : decode cX10_stores 27 = .ok (.iastore, 1) := by decide +kernel
theorem dX10_stores_28 : decode cX10_stores 28 = .ok (.iinc 3 1, 3) := by decide +kernel
theorem dX10_stores_31 : decode cX10_stores 31 = .ok (.goto (-29), 3) := by decide +kernel
theorem dX10_stores_34 : decode cX10_stores 34 = .ok (.return_, 1) := by decide +kernel
theorem dX10_degreeOfModulus_0 : decode cX10_degreeOfModulus 0 = .ok (.aload_n 0, 1) := by decide +kernel
theorem dX10_degreeOfModulus_1 : decode cX10_degreeOfModulus 1 = .ok (.invokevirtual 150, 3) := by decide +kernel
theorem dX10_degreeOfModulus_4 : decode cX10_degreeOfModulus 4 = .ok (.aload_n 0, 1) := by decide +kernel
theorem dX10_degreeOfModulus_5 : decode cX10_degreeOfModulus 5 = .ok (.iconst 0, 1) := by decide +kernel
theorem dX10_degreeOfModulus_6 : decode cX10_degreeOfModulus 6 = .ok (.invokevirtual 70, 3) := by decide +kernel
theorem dX10_degreeOfModulus_9 : decode cX10_degreeOfModulus 9 = .ok (.ireturn, 1) := by decide +kernel
theorem dX10_noPlace_0 : decode cX10_noPlace 0 = .ok (.iload_n 1, 1) := by decide +kernel
theorem dX10_noPlace_1 : decode cX10_noPlace 1 = .ok (.iconst 0, 1) := by decide +kernel
theorem dX10_noPlace_2 : decode cX10_noPlace 2 = .ok (.aload_n 0, 1) := by decide +kernel
theorem dX10_noPlace_3 : decode cX10_noPlace 3 = .ok (.invokevirtual 153, 3) := by decide +kernel
theorem dX10_noPlace_6 : decode cX10_noPlace 6 = .ok (.iconst 1, 1) := by decide +kernel
theorem dX10_noPlace_7 : decode cX10_noPlace 7 = .ok (.isub, 1) := by decide +kernel
theorem dX10_noPlace_8 : decode cX10_noPlace 8 = .ok (.invokestatic 47, 3) := by decide +kernel
theorem dX10_noPlace_11 : decode cX10_noPlace 11 = .ok (.ifCond .ne 7, 3) := by decide +kernel
theorem dX10_noPlace_14 : decode cX10_noPlace 14 = .ok (.iconst 1, 1) := by decide +kernel
theorem dX10_noPlace_15 : decode cX10_noPlace 15 = .ok (.goto 4, 3) := by decide +kernel
theorem dX10_noPlace_18 : decode cX10_noPlace 18 = .ok (.iconst 0, 1) := by decide +kernel
theorem dX10_noPlace_19 : decode cX10_noPlace 19 = .ok (.ireturn, 1) := by decide +kernel
theorem dX10_setNumber_0 : decode cX10_setNumber 0 = .ok (.iload_n 1, 1) := by decide +kernel
theorem dX10_setNumber_1 : decode cX10_setNumber 1 = .ok (.invokestatic 156, 3) := by decide +kernel
theorem dX10_setNumber_4 : decode cX10_setNumber 4 = .ok (.ifCond .eq 5, 3) := by decide +kernel
theorem dX10_setNumber_7 : decode cX10_setNumber 7 = .ok (.iconst (-1), 1) := by decide +kernel
theorem dX10_setNumber_8 : decode cX10_setNumber 8 = .ok (.ireturn, 1) := by decide +kernel
theorem dX10_setNumber_9 : decode cX10_setNumber 9 = .ok (.aload_n 0, 1) := by decide +kernel
theorem dX10_setNumber_10 : decode cX10_setNumber 10 = .ok (.iload_n 2, 1) := by decide +kernel
theorem dX10_setNumber_11 : decode cX10_setNumber 11 = .ok (.invokevirtual 159, 3) := by decide +kernel
theorem dX10_setNumber_14 : decode cX10_setNumber 14 = .ok (.ifCond .ne 19, 3) := by decide +kernel
theorem dX10_setNumber_17 : decode cX10_setNumber 17 = .ok (.iload_n 3, 1) := by decide +kernel
theorem dX10_setNumber_18 : decode cX10_setNumber 18 = .ok (.iconst 0, 1) := by decide +kernel
theorem dX10_setNumber_19 : decode cX10_setNumber 19 = .ok (.aload_n 0, 1) := by decide +kernel
theorem dX10_setNumber_20 : decode cX10_setNumber 20 = .ok (.getfield 7, 3) := by decide +kernel
theorem dX10_setNumber_23 : decode cX10_setNumber 23 = .ok (.iconst 0, 1) := by decide +kernel
theorem dX10_setNumber_24 : decode cX10_setNumber 24 = .ok (.iaload, 1) := by decide +kernel
theorem dX10_setNumber_25 : decode cX10_setNumber 25 = .ok (.iconst 1, 1) := by decide +kernel
theorem dX10_setNumber_26 : decode cX10_setNumber 26 = .ok (.isub, 1) := by decide +kernel
theorem dX10_setNumber_27 : decode cX10_setNumber 27 = .ok (.invokestatic 47, 3) := by decide +kernel
theorem dX10_setNumber_30 : decode cX10_setNumber 30 = .ok (.ifCond .ne 6, 3) := by decide +kernel
theorem dX10_setNumber_33 : decode cX10_setNumber 33 = .ok (.bipush (-2), 2) := by decide +kernel
theorem dX10_setNumber_35 : decode cX10_setNumber 35 = .ok (.ireturn, 1) := by decide +kernel
theorem dX10_setNumber_36 : decode cX10_setNumber 36 = .ok (.aload_n 0, 1) := by decide +kernel
theorem dX10_setNumber_37 : decode cX10_setNumber 37 = .ok (.getfield 7, 3) := by decide +kernel
theorem dX10_setNumber_40 : decode cX10_setNumber 40 = .ok (.bipush 8, 2) := by decide +kernel
theorem dX10_setNumber_42 : decode cX10_setNumber 42 = .ok (.bipush 6, 2) := by decide +kernel
theorem dX10_setNumber_44 : decode cX10_setNumber 44 = .ok (.iload_n 1, 1) := by decide +kernel
theorem dX10_setNumber_45 : decode cX10_setNumber 45 = .ok (.imul, 1) := by decide +kernel
theorem dX10_setNumber_46 : decode cX10_setNumber 46 = .ok (.iadd, 1) := by decide +kernel
theorem dX10_setNumber_47 : decode cX10_setNumber 47 = .ok (.iload_n 2, 1) := by decide +kernel
theorem dX10_setNumber_48 : decode cX10_setNumber 48 = .ok (.iadd, 1) := by decide +kernel
theorem dX10_setNumber_49 : decode cX10_setNumber 49 = .ok (.iaload, 1) := by decide +kernel
theorem dX10_setNumber_50 : decode cX10_setNumber 50 = .ok (.istore 4, 2) := by decide +kernel
theorem dX10_setNumber_52 : decode cX10_setNumber 52 = .ok (.iload 4, 2) := by decide +kernel
theorem dX10_setNumber_54 : decode cX10_setNumber 54 = .ok (.iload_n 3, 1) := by decide +kernel
theorem dX10_setNumber_55 : decode cX10_setNumber 55 = .ok (.if_icmp .ne 6, 3) := by decide +kernel
theorem dX10_setNumber_58 : decode cX10_setNumber 58 = .ok (.bipush (-5), 2) := by decide +kernel
theorem dX10_setNumber_60 : decode cX10_setNumber 60 = .ok (.ireturn, 1) := by decide +kernel
theorem dX10_setNumber_61 : decode cX10_setNumber 61 = .ok (.aload_n 0, 1) := by decide +kernel
theorem dX10_setNumber_62 : decode cX10_setNumber 62 = .ok (.invokevirtual 131, 3) := by decide +kernel
theorem dX10_setNumber_65 : decode cX10_setNumber 65 = .ok (.aload_n 0, 1) := by decide +kernel
theorem dX10_setNumber_66 : decode cX10_setNumber 66 = .ok (.getfield 7, 3) := by decide +kernel
theorem dX10_setNumber_69 : decode cX10_setNumber 69 = .ok (.bipush 8, 2) := by decide +kernel
theorem dX10_setNumber_71 : decode cX10_setNumber 71 = .ok (.bipush 6, 2) := by decide +kernel
theorem dX10_setNumber_73 : decode cX10_setNumber 73 = .ok (.iload_n 1, 1) := by decide +kernel
theorem dX10_setNumber_74 : decode cX10_setNumber 74 = .ok (.imul, 1) := by decide +kernel
theorem dX10_setNumber_75 : decode cX10_setNumber 75 = .ok (.iadd, 1) := by decide +kernel
theorem dX10_setNumber_76 : decode cX10_setNumber 76 = .ok (.iload_n 2, 1) := by decide +kernel
theorem dX10_setNumber_77 : decode cX10_setNumber 77 = .ok (.iadd, 1) := by decide +kernel
theorem dX10_setNumber_78 : decode cX10_setNumber 78 = .ok (.iload_n 3, 1) := by decide +kernel
theorem dX10_setNumber_79 : decode cX10_setNumber 79 = .ok (.iastore, 1) := by decide +kernel
theorem dX10_setNumber_80 : decode cX10_setNumber 80 = .ok (.iload 4, 2) := by decide +kernel
theorem dX10_setNumber_82 : decode cX10_setNumber 82 = .ok (.ireturn, 1) := by decide +kernel
theorem dX10_put_0 : decode cX10_put 0 = .ok (.iload_n 1, 1) := by decide +kernel
theorem dX10_put_1 : decode cX10_put 1 = .ok (.invokestatic 156, 3) := by decide +kernel
theorem dX10_put_4 : decode cX10_put 4 = .ok (.ifCond .ne 18, 3) := by decide +kernel
theorem dX10_put_7 : decode cX10_put 7 = .ok (.aload_n 0, 1) := by decide +kernel
theorem dX10_put_8 : decode cX10_put 8 = .ok (.iload_n 2, 1) := by decide +kernel
theorem dX10_put_9 : decode cX10_put 9 = .ok (.invokevirtual 162, 3) := by decide +kernel
theorem dX10_put_12 : decode cX10_put 12 = .ok (.ifCond .ne 10, 3) := by decide +kernel
theorem dX10_put_15 : decode cX10_put 15 = .ok (.iload_n 3, 1) := by decide +kernel
theorem dX10_put_16 : decode cX10_put 16 = .ok (.invokestatic 156, 3) := by decide +kernel
theorem dX10_put_19 : decode cX10_put 19 = .ok (.ifCond .eq 5, 3) := by decide +kernel
theorem dX10_put_22 : decode cX10_put 22 = .ok (.iconst (-1), 1) := by decide +kernel
theorem dX10_put_23 : decode cX10_put 23 = .ok (.ireturn, 1) := by decide +kernel
theorem dX10_put_24 : decode cX10_put 24 = .ok (.iload_n 1, 1) := by decide +kernel
theorem dX10_put_25 : decode cX10_put 25 = .ok (.iload_n 3, 1) := by decide +kernel
theorem dX10_put_26 : decode cX10_put 26 = .ok (.if_icmp .ne 6, 3) := by decide +kernel
theorem dX10_put_29 : decode cX10_put 29 = .ok (.bipush (-2), 2) := by decide +kernel
theorem dX10_put_31 : decode cX10_put 31 = .ok (.ireturn, 1) := by decide +kernel
theorem dX10_put_32 : decode cX10_put 32 = .ok (.aload_n 0, 1) := by decide +kernel
theorem dX10_put_33 : decode cX10_put 33 = .ok (.invokevirtual 150, 3) := by decide +kernel
theorem dX10_put_36 : decode cX10_put 36 = .ok (.aload_n 0, 1) := by decide +kernel
theorem dX10_put_37 : decode cX10_put 37 = .ok (.iload_n 2, 1) := by decide +kernel
theorem dX10_put_38 : decode cX10_put 38 = .ok (.iconst 1, 1) := by decide +kernel
theorem dX10_put_39 : decode cX10_put 39 = .ok (.invokevirtual 106, 3) := by decide +kernel
theorem dX10_put_42 : decode cX10_put 42 = .ok (.aload_n 0, 1) := by decide +kernel
theorem dX10_put_43 : decode cX10_put 43 = .ok (.bipush 8, 2) := by decide +kernel
theorem dX10_put_45 : decode cX10_put 45 = .ok (.invokevirtual 128, 3) := by decide +kernel
theorem dX10_put_48 : decode cX10_put 48 = .ok (.aload_n 0, 1) := by decide +kernel
theorem dX10_put_49 : decode cX10_put 49 = .ok (.iload_n 1, 1) := by decide +kernel
theorem dX10_put_50 : decode cX10_put 50 = .ok (.iconst 2, 1) := by decide +kernel
theorem dX10_put_51 : decode cX10_put 51 = .ok (.invokevirtual 144, 3) := by decide +kernel
theorem dX10_put_54 : decode cX10_put 54 = .ok (.aload_n 0, 1) := by decide +kernel
theorem dX10_put_55 : decode cX10_put 55 = .ok (.iload_n 3, 1) := by decide +kernel
theorem dX10_put_56 : decode cX10_put 56 = .ok (.iconst 3, 1) := by decide +kernel
theorem dX10_put_57 : decode cX10_put 57 = .ok (.invokevirtual 144, 3) := by decide +kernel
theorem dX10_put_60 : decode cX10_put 60 = .ok (.aload_n 0, 1) := by decide +kernel
theorem dX10_put_61 : decode cX10_put 61 = .ok (.iconst 3, 1) := by decide +kernel
theorem dX10_put_62 : decode cX10_put 62 = .ok (.iconst 2, 1) := by decide +kernel
theorem dX10_put_63 : decode cX10_put 63 = .ok (.aload_n 0, 1) := by decide +kernel
theorem dX10_put_64 : decode cX10_put 64 = .ok (.getfield 7, 3) := by decide +kernel
theorem dX10_put_67 : decode cX10_put 67 = .ok (.iconst 0, 1) := by decide +kernel
theorem dX10_put_68 : decode cX10_put 68 = .ok (.iaload, 1) := by decide +kernel
theorem dX10_put_69 : decode cX10_put 69 = .ok (.iconst 1, 1) := by decide +kernel
theorem dX10_put_70 : decode cX10_put 70 = .ok (.isub, 1) := by decide +kernel
theorem dX10_put_71 : decode cX10_put 71 = .ok (.invokevirtual 93, 3) := by decide +kernel
theorem dX10_put_74 : decode cX10_put 74 = .ok (.aload_n 0, 1) := by decide +kernel
theorem dX10_put_75 : decode cX10_put 75 = .ok (.bipush 8, 2) := by decide +kernel
theorem dX10_put_77 : decode cX10_put 77 = .ok (.iconst 2, 1) := by decide +kernel
theorem dX10_put_78 : decode cX10_put 78 = .ok (.iconst 2, 1) := by decide +kernel
theorem dX10_put_79 : decode cX10_put 79 = .ok (.invokevirtual 90, 3) := by decide +kernel
theorem dX10_put_82 : decode cX10_put 82 = .ok (.aload_n 0, 1) := by decide +kernel
theorem dX10_put_83 : decode cX10_put 83 = .ok (.iconst 2, 1) := by decide +kernel
theorem dX10_put_84 : decode cX10_put 84 = .ok (.iconst 0, 1) := by decide +kernel
theorem dX10_put_85 : decode cX10_put 85 = .ok (.iconst (-1), 1) := by decide +kernel
theorem dX10_put_86 : decode cX10_put 86 = .ok (.invokevirtual 81, 3) := by decide +kernel
theorem dX10_put_89 : decode cX10_put 89 = .ok (.aload_n 0, 1) := by decide +kernel
theorem dX10_put_90 : decode cX10_put 90 = .ok (.iconst 3, 1) := by decide +kernel
theorem dX10_put_91 : decode cX10_put 91 = .ok (.iconst 2, 1) := by decide +kernel
theorem dX10_put_92 : decode cX10_put 92 = .ok (.iconst 1, 1) := by decide +kernel
theorem dX10_put_93 : decode cX10_put 93 = .ok (.invokevirtual 93, 3) := by decide +kernel
theorem dX10_put_96 : decode cX10_put 96 = .ok (.aload_n 0, 1) := by decide +kernel
theorem dX10_put_97 : decode cX10_put 97 = .ok (.iload_n 1, 1) := by decide +kernel
theorem dX10_put_98 : decode cX10_put 98 = .ok (.iconst 3, 1) := by decide +kernel
theorem dX10_put_99 : decode cX10_put 99 = .ok (.invokevirtual 144, 3) := by decide +kernel
theorem dX10_put_102 : decode cX10_put 102 = .ok (.aload_n 0, 1) := by decide +kernel
theorem dX10_put_103 : decode cX10_put 103 = .ok (.iconst 2, 1) := by decide +kernel
theorem dX10_put_104 : decode cX10_put 104 = .ok (.iconst 5, 1) := by decide +kernel
theorem dX10_put_105 : decode cX10_put 105 = .ok (.invokevirtual 77, 3) := by decide +kernel
theorem dX10_put_108 : decode cX10_put 108 = .ok (.aload_n 0, 1) := by decide +kernel
theorem dX10_put_109 : decode cX10_put 109 = .ok (.iconst 3, 1) := by decide +kernel
theorem dX10_put_110 : decode cX10_put 110 = .ok (.iconst 5, 1) := by decide +kernel
theorem dX10_put_111 : decode cX10_put 111 = .ok (.aload_n 0, 1) := by decide +kernel
theorem dX10_put_112 : decode cX10_put 112 = .ok (.getfield 7, 3) := by decide +kernel
theorem dX10_put_115 : decode cX10_put 115 = .ok (.iconst 0, 1) := by decide +kernel
theorem dX10_put_116 : decode cX10_put 116 = .ok (.iaload, 1) := by decide +kernel
theorem dX10_put_117 : decode cX10_put 117 = .ok (.iconst 1, 1) := by decide +kernel
theorem dX10_put_118 : decode cX10_put 118 = .ok (.isub, 1) := by decide +kernel
theorem dX10_put_119 : decode cX10_put 119 = .ok (.invokevirtual 93, 3) := by decide +kernel
theorem dX10_put_122 : decode cX10_put 122 = .ok (.iconst 0, 1) := by decide +kernel
theorem dX10_put_123 : decode cX10_put 123 = .ok (.istore 4, 2) := by decide +kernel
theorem dX10_put_125 : decode cX10_put 125 = .ok (.iconst 0, 1) := by decide +kernel
theorem dX10_put_126 : decode cX10_put 126 = .ok (.istore 5, 2) := by decide +kernel
theorem dX10_put_128 : decode cX10_put 128 = .ok (.iload 5, 2) := by decide +kernel
theorem dX10_put_130 : decode cX10_put 130 = .ok (.aload_n 0, 1) := by decide +kernel
theorem dX10_put_131 : decode cX10_put 131 = .ok (.getfield 7, 3) := by decide +kernel
theorem dX10_put_134 : decode cX10_put 134 = .ok (.bipush 44, 2) := by decide +kernel
theorem dX10_put_136 : decode cX10_put 136 = .ok (.iaload, 1) := by decide +kernel
theorem dX10_put_137 : decode cX10_put 137 = .ok (.if_icmp .ge 34, 3) := by decide +kernel
theorem dX10_put_140 : decode cX10_put 140 = .ok (.aload_n 0, 1) := by decide +kernel
theorem dX10_put_141 : decode cX10_put 141 = .ok (.iload 5, 2) := by decide +kernel
theorem dX10_put_143 : decode cX10_put 143 = .ok (.iconst 1, 1) := by decide +kernel
theorem dX10_put_144 : decode cX10_put 144 = .ok (.invokevirtual 106, 3) := by decide +kernel
theorem dX10_put_147 : decode cX10_put 147 = .ok (.iload 4, 2) := by decide +kernel
theorem dX10_put_149 : decode cX10_put 149 = .ok (.aload_n 0, 1) := by decide +kernel
theorem dX10_put_150 : decode cX10_put 150 = .ok (.iconst 5, 1) := by decide +kernel
theorem dX10_put_151 : decode cX10_put 151 = .ok (.invokevirtual 125, 3) := by decide +kernel
theorem dX10_put_154 : decode cX10_put 154 = .ok (.ifCond .ne 7, 3) := by decide +kernel
theorem dX10_put_157 : decode cX10_put 157 = .ok (.iconst 0, 1) := by decide +kernel
theorem dX10_put_158 : decode cX10_put 158 = .ok (.goto 4, 3) := by decide +kernel
theorem dX10_put_161 : decode cX10_put 161 = .ok (.iconst 1, 1) := by decide +kernel
theorem dX10_put_162 : decode cX10_put 162 = .ok (.iadd, 1) := by decide +kernel
theorem dX10_put_163 : decode cX10_put 163 = .ok (.istore 4, 2) := by decide +kernel
theorem dX10_put_165 : decode cX10_put 165 = .ok (.iinc 5 1, 3) := by decide +kernel
theorem dX10_put_168 : decode cX10_put 168 = .ok (.goto (-40), 3) := by decide +kernel
theorem dX10_put_171 : decode cX10_put 171 = .ok (.iload 4, 2) := by decide +kernel
theorem dX10_put_173 : decode cX10_put 173 = .ok (.ifCond .ne 6, 3) := by decide +kernel
theorem dX10_put_176 : decode cX10_put 176 = .ok (.bipush (-5), 2) := by decide +kernel
theorem dX10_put_178 : decode cX10_put 178 = .ok (.ireturn, 1) := by decide +kernel
theorem dX10_put_179 : decode cX10_put 179 = .ok (.aload_n 0, 1) := by decide +kernel
theorem dX10_put_180 : decode cX10_put 180 = .ok (.invokevirtual 131, 3) := by decide +kernel
theorem dX10_put_183 : decode cX10_put 183 = .ok (.aload_n 0, 1) := by decide +kernel
theorem dX10_put_184 : decode cX10_put 184 = .ok (.iconst 2, 1) := by decide +kernel
theorem dX10_put_185 : decode cX10_put 185 = .ok (.iload_n 1, 1) := by decide +kernel
theorem dX10_put_186 : decode cX10_put 186 = .ok (.invokevirtual 147, 3) := by decide +kernel
theorem dX10_put_189 : decode cX10_put 189 = .ok (.iload 4, 2) := by decide +kernel
theorem dX10_put_191 : decode cX10_put 191 = .ok (.ireturn, 1) := by decide +kernel
theorem dX10_nothings_0 : decode cX10_nothings 0 = .ok (.aload_n 0, 1) := by decide +kernel
theorem dX10_nothings_1 : decode cX10_nothings 1 = .ok (.iload_n 1, 1) := by decide +kernel
theorem dX10_nothings_2 : decode cX10_nothings 2 = .ok (.iconst 2, 1) := by decide +kernel
theorem dX10_nothings_3 : decode cX10_nothings 3 = .ok (.invokevirtual 144, 3) := by decide +kernel
theorem dX10_nothings_6 : decode cX10_nothings 6 = .ok (.iconst 0, 1) := by decide +kernel
theorem dX10_nothings_7 : decode cX10_nothings 7 = .ok (.istore_n 2, 1) := by decide +kernel
theorem dX10_nothings_8 : decode cX10_nothings 8 = .ok (.iconst 0, 1) := by decide +kernel
theorem dX10_nothings_9 : decode cX10_nothings 9 = .ok (.istore_n 3, 1) := by decide +kernel
theorem dX10_nothings_10 : decode cX10_nothings 10 = .ok (.iload_n 3, 1) := by decide +kernel
theorem dX10_nothings_11 : decode cX10_nothings 11 = .ok (.aload_n 0, 1) := by decide +kernel
theorem dX10_nothings_12 : decode cX10_nothings 12 = .ok (.getfield 7, 3) := by decide +kernel
theorem dX10_nothings_15 : decode cX10_nothings 15 = .ok (.bipush 44, 2) := by decide +kernel
theorem dX10_nothings_17 : decode cX10_nothings 17 = .ok (.iaload, 1) := by decide +kernel
theorem dX10_nothings_18 : decode cX10_nothings 18 = .ok (.if_icmp .ge 31, 3) := by decide +kernel
theorem dX10_nothings_21 : decode cX10_nothings 21 = .ok (.aload_n 0, 1) := by decide +kernel
theorem dX10_nothings_22 : decode cX10_nothings 22 = .ok (.iload_n 3, 1) := by decide +kernel
theorem dX10_nothings_23 : decode cX10_nothings 23 = .ok (.iconst 1, 1) := by decide +kernel
theorem dX10_nothings_24 : decode cX10_nothings 24 = .ok (.invokevirtual 106, 3) := by decide +kernel
theorem dX10_nothings_27 : decode cX10_nothings 27 = .ok (.iload_n 2, 1) := by decide +kernel
theorem dX10_nothings_28 : decode cX10_nothings 28 = .ok (.aload_n 0, 1) := by decide +kernel
theorem dX10_nothings_29 : decode cX10_nothings 29 = .ok (.iconst 2, 1) := by decide +kernel
theorem dX10_nothings_30 : decode cX10_nothings 30 = .ok (.invokevirtual 125, 3) := by decide +kernel
theorem dX10_nothings_33 : decode cX10_nothings 33 = .ok (.ifCond .ne 7, 3) := by decide +kernel
theorem dX10_nothings_36 : decode cX10_nothings 36 = .ok (.iconst 1, 1) := by decide +kernel
theorem dX10_nothings_37 : decode cX10_nothings 37 = .ok (.goto 4, 3) := by decide +kernel
theorem dX10_nothings_40 : decode cX10_nothings 40 = .ok (.iconst 0, 1) := by decide +kernel
theorem dX10_nothings_41 : decode cX10_nothings 41 = .ok (.iadd, 1) := by decide +kernel
theorem dX10_nothings_42 : decode cX10_nothings 42 = .ok (.istore_n 2, 1) := by decide +kernel
theorem dX10_nothings_43 : decode cX10_nothings 43 = .ok (.iinc 3 1, 3) := by decide +kernel
theorem dX10_nothings_46 : decode cX10_nothings 46 = .ok (.goto (-36), 3) := by decide +kernel
theorem dX10_nothings_49 : decode cX10_nothings 49 = .ok (.iload_n 2, 1) := by decide +kernel
theorem dX10_nothings_50 : decode cX10_nothings 50 = .ok (.ireturn, 1) := by decide +kernel
theorem dX10_remembers_0 : decode cX10_remembers 0 = .ok (.iconst 0, 1) := by decide +kernel
theorem dX10_remembers_1 : decode cX10_remembers 1 = .ok (.istore_n 1, 1) := by decide +kernel
theorem dX10_remembers_2 : decode cX10_remembers 2 = .ok (.iload_n 1, 1) := by decide +kernel
theorem dX10_remembers_3 : decode cX10_remembers 3 = .ok (.bipush 87, 2) := by decide +kernel
theorem dX10_remembers_5 : decode cX10_remembers 5 = .ok (.if_icmp .ge 21, 3) := by decide +kernel
theorem dX10_remembers_8 : decode cX10_remembers 8 = .ok (.aload_n 0, 1) := by decide +kernel
theorem dX10_remembers_9 : decode cX10_remembers 9 = .ok (.getfield 25, 3) := by decide +kernel
theorem dX10_remembers_12 : decode cX10_remembers 12 = .ok (.iload_n 1, 1) := by decide +kernel
theorem dX10_remembers_13 : decode cX10_remembers 13 = .ok (.aload_n 0, 1) := by decide +kernel
theorem dX10_remembers_14 : decode cX10_remembers 14 = .ok (.getfield 7, 3) := by decide +kernel
theorem dX10_remembers_17 : decode cX10_remembers 17 = .ok (.iload_n 1, 1) := by decide +kernel
theorem dX10_remembers_18 : decode cX10_remembers 18 = .ok (.iaload, 1) := by decide +kernel
theorem dX10_remembers_19 : decode cX10_remembers 19 = .ok (.iastore, 1) := by decide +kernel
theorem dX10_remembers_20 : decode cX10_remembers 20 = .ok (.iinc 1 1, 3) := by decide +kernel
theorem dX10_remembers_23 : decode cX10_remembers 23 = .ok (.goto (-21), 3) := by decide +kernel
theorem dX10_remembers_26 : decode cX10_remembers 26 = .ok (.return_, 1) := by decide +kernel
theorem dX10_recordsBefore_0 : decode cX10_recordsBefore 0 = .ok (.iconst 0, 1) := by decide +kernel
theorem dX10_recordsBefore_1 : decode cX10_recordsBefore 1 = .ok (.istore_n 1, 1) := by decide +kernel
theorem dX10_recordsBefore_2 : decode cX10_recordsBefore 2 = .ok (.iload_n 1, 1) := by decide +kernel
theorem dX10_recordsBefore_3 : decode cX10_recordsBefore 3 = .ok (.bipush 87, 2) := by decide +kernel
theorem dX10_recordsBefore_5 : decode cX10_recordsBefore 5 = .ok (.if_icmp .ge 35, 3) := by decide +kernel
theorem dX10_recordsBefore_8 : decode cX10_recordsBefore 8 = .ok (.aload_n 0, 1) := by decide +kernel
theorem dX10_recordsBefore_9 : decode cX10_recordsBefore 9 = .ok (.getfield 7, 3) := by decide +kernel
theorem dX10_recordsBefore_12 : decode cX10_recordsBefore 12 = .ok (.iload_n 1, 1) := by decide +kernel
theorem dX10_recordsBefore_13 : decode cX10_recordsBefore 13 = .ok (.iaload, 1) := by decide +kernel
theorem dX10_recordsBefore_14 : decode cX10_recordsBefore 14 = .ok (.istore_n 2, 1) := by decide +kernel
theorem dX10_recordsBefore_15 : decode cX10_recordsBefore 15 = .ok (.aload_n 0, 1) := by decide +kernel
theorem dX10_recordsBefore_16 : decode cX10_recordsBefore 16 = .ok (.getfield 7, 3) := by decide +kernel
theorem dX10_recordsBefore_19 : decode cX10_recordsBefore 19 = .ok (.iload_n 1, 1) := by decide +kernel
theorem dX10_recordsBefore_20 : decode cX10_recordsBefore 20 = .ok (.aload_n 0, 1) := by decide +kernel
theorem dX10_recordsBefore_21 : decode cX10_recordsBefore 21 = .ok (.getfield 25, 3) := by decide +kernel
theorem dX10_recordsBefore_24 : decode cX10_recordsBefore 24 = .ok (.iload_n 1, 1) := by decide +kernel
theorem dX10_recordsBefore_25 : decode cX10_recordsBefore 25 = .ok (.iaload, 1) := by decide +kernel
theorem dX10_recordsBefore_26 : decode cX10_recordsBefore 26 = .ok (.iastore, 1) := by decide +kernel
theorem dX10_recordsBefore_27 : decode cX10_recordsBefore 27 = .ok (.aload_n 0, 1) := by decide +kernel
theorem dX10_recordsBefore_28 : decode cX10_recordsBefore 28 = .ok (.getfield 25, 3) := by decide +kernel
theorem dX10_recordsBefore_31 : decode cX10_recordsBefore 31 = .ok (.iload_n 1, 1) := by decide +kernel
theorem dX10_recordsBefore_32 : decode cX10_recordsBefore 32 = .ok (.iload_n 2, 1) := by decide +kernel
theorem dX10_recordsBefore_33 : decode cX10_recordsBefore 33 = .ok (.iastore, 1) := by decide +kernel
theorem dX10_recordsBefore_34 : decode cX10_recordsBefore 34 = .ok (.iinc 1 1, 3) := by decide +kernel
theorem dX10_recordsBefore_37 : decode cX10_recordsBefore 37 = .ok (.goto (-35), 3) := by decide +kernel
theorem dX10_recordsBefore_40 : decode cX10_recordsBefore 40 = .ok (.aload_n 0, 1) := by decide +kernel
theorem dX10_recordsBefore_41 : decode cX10_recordsBefore 41 = .ok (.invokevirtual 131, 3) := by decide +kernel
theorem dX10_recordsBefore_44 : decode cX10_recordsBefore 44 = .ok (.iconst 0, 1) := by decide +kernel
theorem dX10_recordsBefore_45 : decode cX10_recordsBefore 45 = .ok (.istore_n 1, 1) := by decide +kernel
theorem dX10_recordsBefore_46 : decode cX10_recordsBefore 46 = .ok (.iload_n 1, 1) := by decide +kernel
theorem dX10_recordsBefore_47 : decode cX10_recordsBefore 47 = .ok (.bipush 87, 2) := by decide +kernel
theorem dX10_recordsBefore_49 : decode cX10_recordsBefore 49 = .ok (.if_icmp .ge 21, 3) := by decide +kernel
theorem dX10_recordsBefore_52 : decode cX10_recordsBefore 52 = .ok (.aload_n 0, 1) := by decide +kernel
theorem dX10_recordsBefore_53 : decode cX10_recordsBefore 53 = .ok (.getfield 7, 3) := by decide +kernel
theorem dX10_recordsBefore_56 : decode cX10_recordsBefore 56 = .ok (.iload_n 1, 1) := by decide +kernel
theorem dX10_recordsBefore_57 : decode cX10_recordsBefore 57 = .ok (.aload_n 0, 1) := by decide +kernel
theorem dX10_recordsBefore_58 : decode cX10_recordsBefore 58 = .ok (.getfield 25, 3) := by decide +kernel
theorem dX10_recordsBefore_61 : decode cX10_recordsBefore 61 = .ok (.iload_n 1, 1) := by decide +kernel
theorem dX10_recordsBefore_62 : decode cX10_recordsBefore 62 = .ok (.iaload, 1) := by decide +kernel
theorem dX10_recordsBefore_63 : decode cX10_recordsBefore 63 = .ok (.iastore, 1) := by decide +kernel
theorem dX10_recordsBefore_64 : decode cX10_recordsBefore 64 = .ok (.iinc 1 1, 3) := by decide +kernel
theorem dX10_recordsBefore_67 : decode cX10_recordsBefore 67 = .ok (.goto (-21), 3) := by decide +kernel
theorem dX10_recordsBefore_70 : decode cX10_recordsBefore 70 = .ok (.return_, 1) := by decide +kernel
theorem dX10_part_0 : decode cX10_part 0 = .ok (.iload_n 1, 1) := by decide +kernel
theorem dX10_part_1 : decode cX10_part 1 = .ok (.invokestatic 156, 3) := by decide +kernel
theorem dX10_part_4 : decode cX10_part 4 = .ok (.ifCond .eq 5, 3) := by decide +kernel
theorem dX10_part_7 : decode cX10_part 7 = .ok (.iconst (-1), 1) := by decide +kernel
theorem dX10_part_8 : decode cX10_part 8 = .ok (.ireturn, 1) := by decide +kernel
theorem dX10_part_9 : decode cX10_part 9 = .ok (.aload_n 0, 1) := by decide +kernel
theorem dX10_part_10 : decode cX10_part 10 = .ok (.invokevirtual 165, 3) := by decide +kernel
theorem dX10_part_13 : decode cX10_part 13 = .ok (.aload_n 0, 1) := by decide +kernel
theorem dX10_part_14 : decode cX10_part 14 = .ok (.iload_n 1, 1) := by decide +kernel
theorem dX10_part_15 : decode cX10_part 15 = .ok (.iconst 2, 1) := by decide +kernel
theorem dX10_part_16 : decode cX10_part 16 = .ok (.invokevirtual 144, 3) := by decide +kernel
theorem dX10_part_19 : decode cX10_part 19 = .ok (.aload_n 0, 1) := by decide +kernel
theorem dX10_part_20 : decode cX10_part 20 = .ok (.iconst 2, 1) := by decide +kernel
theorem dX10_part_21 : decode cX10_part 21 = .ok (.invokevirtual 121, 3) := by decide +kernel
theorem dX10_part_24 : decode cX10_part 24 = .ok (.ifCond .ne 6, 3) := by decide +kernel
theorem dX10_part_27 : decode cX10_part 27 = .ok (.bipush (-5), 2) := by decide +kernel
theorem dX10_part_29 : decode cX10_part 29 = .ok (.ireturn, 1) := by decide +kernel
theorem dX10_part_30 : decode cX10_part 30 = .ok (.aload_n 0, 1) := by decide +kernel
theorem dX10_part_31 : decode cX10_part 31 = .ok (.invokevirtual 168, 3) := by decide +kernel
theorem dX10_part_34 : decode cX10_part 34 = .ok (.aload_n 0, 1) := by decide +kernel
theorem dX10_part_35 : decode cX10_part 35 = .ok (.iload_n 1, 1) := by decide +kernel
theorem dX10_part_36 : decode cX10_part 36 = .ok (.invokevirtual 171, 3) := by decide +kernel
theorem dX10_part_39 : decode cX10_part 39 = .ok (.ireturn, 1) := by decide +kernel
theorem dX10_takesDegree_0 : decode cX10_takesDegree 0 = .ok (.aload_n 0, 1) := by decide +kernel
theorem dX10_takesDegree_1 : decode cX10_takesDegree 1 = .ok (.iconst 2, 1) := by decide +kernel
theorem dX10_takesDegree_2 : decode cX10_takesDegree 2 = .ok (.invokevirtual 63, 3) := by decide +kernel
theorem dX10_takesDegree_5 : decode cX10_takesDegree 5 = .ok (.aload_n 0, 1) := by decide +kernel
theorem dX10_takesDegree_6 : decode cX10_takesDegree 6 = .ok (.iconst 2, 1) := by decide +kernel
theorem dX10_takesDegree_7 : decode cX10_takesDegree 7 = .ok (.iconst 1, 1) := by decide +kernel
theorem dX10_takesDegree_8 : decode cX10_takesDegree 8 = .ok (.iconst 1, 1) := by decide +kernel
theorem dX10_takesDegree_9 : decode cX10_takesDegree 9 = .ok (.invokevirtual 59, 3) := by decide +kernel
theorem dX10_takesDegree_12 : decode cX10_takesDegree 12 = .ok (.aload_n 0, 1) := by decide +kernel
theorem dX10_takesDegree_13 : decode cX10_takesDegree 13 = .ok (.iconst 2, 1) := by decide +kernel
theorem dX10_takesDegree_14 : decode cX10_takesDegree 14 = .ok (.iconst 3, 1) := by decide +kernel
theorem dX10_takesDegree_15 : decode cX10_takesDegree 15 = .ok (.invokevirtual 77, 3) := by decide +kernel
theorem dX10_takesDegree_18 : decode cX10_takesDegree 18 = .ok (.iconst 0, 1) := by decide +kernel
theorem dX10_takesDegree_19 : decode cX10_takesDegree 19 = .ok (.istore_n 3, 1) := by decide +kernel
theorem dX10_takesDegree_20 : decode cX10_takesDegree 20 = .ok (.iload_n 3, 1) := by decide +kernel
theorem dX10_takesDegree_21 : decode cX10_takesDegree 21 = .ok (.iload_n 1, 1) := by decide +kernel
theorem dX10_takesDegree_22 : decode cX10_takesDegree 22 = .ok (.if_icmp .ge 22, 3) := by decide +kernel
theorem dX10_takesDegree_25 : decode cX10_takesDegree 25 = .ok (.aload_n 0, 1) := by decide +kernel
theorem dX10_takesDegree_26 : decode cX10_takesDegree 26 = .ok (.iconst 3, 1) := by decide +kernel
theorem dX10_takesDegree_27 : decode cX10_takesDegree 27 = .ok (.aload_n 0, 1) := by decide +kernel
theorem dX10_takesDegree_28 : decode cX10_takesDegree 28 = .ok (.getfield 7, 3) := by decide +kernel
theorem dX10_takesDegree_31 : decode cX10_takesDegree 31 = .ok (.iconst 0, 1) := by decide +kernel
theorem dX10_takesDegree_32 : decode cX10_takesDegree 32 = .ok (.iaload, 1) := by decide +kernel
theorem dX10_takesDegree_33 : decode cX10_takesDegree 33 = .ok (.iconst 1, 1) := by decide +kernel
theorem dX10_takesDegree_34 : decode cX10_takesDegree 34 = .ok (.iconst 3, 1) := by decide +kernel
theorem dX10_takesDegree_35 : decode cX10_takesDegree 35 = .ok (.invokevirtual 174, 3) := by decide +kernel
theorem dX10_takesDegree_38 : decode cX10_takesDegree 38 = .ok (.iinc 3 1, 3) := by decide +kernel
theorem dX10_takesDegree_41 : decode cX10_takesDegree 41 = .ok (.goto (-21), 3) := by decide +kernel
theorem dX10_takesDegree_44 : decode cX10_takesDegree 44 = .ok (.aload_n 0, 1) := by decide +kernel
theorem dX10_takesDegree_45 : decode cX10_takesDegree 45 = .ok (.iconst 2, 1) := by decide +kernel
theorem dX10_takesDegree_46 : decode cX10_takesDegree 46 = .ok (.iconst 3, 1) := by decide +kernel
theorem dX10_takesDegree_47 : decode cX10_takesDegree 47 = .ok (.aload_n 0, 1) := by decide +kernel
theorem dX10_takesDegree_48 : decode cX10_takesDegree 48 = .ok (.getfield 7, 3) := by decide +kernel
theorem dX10_takesDegree_51 : decode cX10_takesDegree 51 = .ok (.iconst 0, 1) := by decide +kernel
theorem dX10_takesDegree_52 : decode cX10_takesDegree 52 = .ok (.iaload, 1) := by decide +kernel
theorem dX10_takesDegree_53 : decode cX10_takesDegree 53 = .ok (.iconst 1, 1) := by decide +kernel
theorem dX10_takesDegree_54 : decode cX10_takesDegree 54 = .ok (.isub, 1) := by decide +kernel
theorem dX10_takesDegree_55 : decode cX10_takesDegree 55 = .ok (.invokevirtual 93, 3) := by decide +kernel
theorem dX10_takesDegree_58 : decode cX10_takesDegree 58 = .ok (.aload_n 0, 1) := by decide +kernel
theorem dX10_takesDegree_59 : decode cX10_takesDegree 59 = .ok (.iconst 3, 1) := by decide +kernel
theorem dX10_takesDegree_60 : decode cX10_takesDegree 60 = .ok (.iconst 1, 1) := by decide +kernel
theorem dX10_takesDegree_61 : decode cX10_takesDegree 61 = .ok (.iconst (-1), 1) := by decide +kernel
theorem dX10_takesDegree_62 : decode cX10_takesDegree 62 = .ok (.invokevirtual 81, 3) := by decide +kernel
theorem dX10_takesDegree_65 : decode cX10_takesDegree 65 = .ok (.aload_n 0, 1) := by decide +kernel
theorem dX10_takesDegree_66 : decode cX10_takesDegree 66 = .ok (.iconst 1, 1) := by decide +kernel
theorem dX10_takesDegree_67 : decode cX10_takesDegree 67 = .ok (.iconst 3, 1) := by decide +kernel
theorem dX10_takesDegree_68 : decode cX10_takesDegree 68 = .ok (.iload_n 2, 1) := by decide +kernel
theorem dX10_takesDegree_69 : decode cX10_takesDegree 69 = .ok (.invokevirtual 109, 3) := by decide +kernel
theorem dX10_takesDegree_72 : decode cX10_takesDegree 72 = .ok (.aload_n 0, 1) := by decide +kernel
theorem dX10_takesDegree_73 : decode cX10_takesDegree 73 = .ok (.iconst 1, 1) := by decide +kernel
theorem dX10_takesDegree_74 : decode cX10_takesDegree 74 = .ok (.iload_n 2, 1) := by decide +kernel
theorem dX10_takesDegree_75 : decode cX10_takesDegree 75 = .ok (.iconst 5, 1) := by decide +kernel
theorem dX10_takesDegree_76 : decode cX10_takesDegree 76 = .ok (.invokevirtual 81, 3) := by decide +kernel
theorem dX10_takesDegree_79 : decode cX10_takesDegree 79 = .ok (.aload_n 0, 1) := by decide +kernel
theorem dX10_takesDegree_80 : decode cX10_takesDegree 80 = .ok (.iconst 5, 1) := by decide +kernel
theorem dX10_takesDegree_81 : decode cX10_takesDegree 81 = .ok (.iconst 1, 1) := by decide +kernel
theorem dX10_takesDegree_82 : decode cX10_takesDegree 82 = .ok (.invokevirtual 77, 3) := by decide +kernel
theorem dX10_takesDegree_85 : decode cX10_takesDegree 85 = .ok (.return_, 1) := by decide +kernel
theorem dX10_partByDegrees_0 : decode cX10_partByDegrees 0 = .ok (.aload_n 0, 1) := by decide +kernel
theorem dX10_partByDegrees_1 : decode cX10_partByDegrees 1 = .ok (.invokevirtual 165, 3) := by decide +kernel
theorem dX10_partByDegrees_4 : decode cX10_partByDegrees 4 = .ok (.aload_n 0, 1) := by decide +kernel
theorem dX10_partByDegrees_5 : decode cX10_partByDegrees 5 = .ok (.getfield 7, 3) := by decide +kernel
theorem dX10_partByDegrees_8 : decode cX10_partByDegrees 8 = .ok (.bipush 44, 2) := by decide +kernel
theorem dX10_partByDegrees_10 : decode cX10_partByDegrees 10 = .ok (.iaload, 1) := by decide +kernel
theorem dX10_partByDegrees_11 : decode cX10_partByDegrees 11 = .ok (.istore_n 1, 1) := by decide +kernel
theorem dX10_partByDegrees_12 : decode cX10_partByDegrees 12 = .ok (.iconst 0, 1) := by decide +kernel
theorem dX10_partByDegrees_13 : decode cX10_partByDegrees 13 = .ok (.istore_n 2, 1) := by decide +kernel
theorem dX10_partByDegrees_14 : decode cX10_partByDegrees 14 = .ok (.iload_n 2, 1) := by decide +kernel
theorem dX10_partByDegrees_15 : decode cX10_partByDegrees 15 = .ok (.iload_n 1, 1) := by decide +kernel
theorem dX10_partByDegrees_16 : decode cX10_partByDegrees 16 = .ok (.if_icmp .ge 84, 3) := by decide +kernel
theorem dX10_partByDegrees_19 : decode cX10_partByDegrees 19 = .ok (.aload_n 0, 1) := by decide +kernel
theorem dX10_partByDegrees_20 : decode cX10_partByDegrees 20 = .ok (.iload_n 2, 1) := by decide +kernel
theorem dX10_partByDegrees_21 : decode cX10_partByDegrees 21 = .ok (.iconst 1, 1) := by decide +kernel
theorem dX10_partByDegrees_22 : decode cX10_partByDegrees 22 = .ok (.invokevirtual 106, 3) := by decide +kernel
theorem dX10_partByDegrees_25 : decode cX10_partByDegrees 25 = .ok (.iconst 1, 1) := by decide +kernel
theorem dX10_partByDegrees_26 : decode cX10_partByDegrees 26 = .ok (.istore_n 3, 1) := by decide +kernel
theorem dX10_partByDegrees_27 : decode cX10_partByDegrees 27 = .ok (.iconst 1, 1) := by decide +kernel
theorem dX10_partByDegrees_28 : decode cX10_partByDegrees 28 = .ok (.istore 4, 2) := by decide +kernel
theorem dX10_partByDegrees_30 : decode cX10_partByDegrees 30 = .ok (.iload 4, 2) := by decide +kernel
theorem dX10_partByDegrees_32 : decode cX10_partByDegrees 32 = .ok (.bipush 6, 2) := by decide +kernel
theorem dX10_partByDegrees_34 : decode cX10_partByDegrees 34 = .ok (.if_icmp .gt 60, 3) := by decide +kernel
theorem dX10_partByDegrees_37 : decode cX10_partByDegrees 37 = .ok (.aload_n 0, 1) := by decide +kernel
theorem dX10_partByDegrees_38 : decode cX10_partByDegrees 38 = .ok (.iconst 1, 1) := by decide +kernel
theorem dX10_partByDegrees_39 : decode cX10_partByDegrees 39 = .ok (.invokevirtual 70, 3) := by decide +kernel
theorem dX10_partByDegrees_42 : decode cX10_partByDegrees 42 = .ok (.ifCond .le 52, 3) := by decide +kernel
theorem dX10_partByDegrees_45 : decode cX10_partByDegrees 45 = .ok (.aload_n 0, 1) := by decide +kernel
theorem dX10_partByDegrees_46 : decode cX10_partByDegrees 46 = .ok (.iload 4, 2) := by decide +kernel
theorem dX10_partByDegrees_48 : decode cX10_partByDegrees 48 = .ok (.iconst 4, 1) := by decide +kernel
theorem dX10_partByDegrees_49 : decode cX10_partByDegrees 49 = .ok (.invokevirtual 178, 3) := by decide +kernel
theorem dX10_partByDegrees_52 : decode cX10_partByDegrees 52 = .ok (.aload_n 0, 1) := by decide +kernel
theorem dX10_partByDegrees_53 : decode cX10_partByDegrees 53 = .ok (.iconst 4, 1) := by decide +kernel
theorem dX10_partByDegrees_54 : decode cX10_partByDegrees 54 = .ok (.invokevirtual 70, 3) := by decide +kernel
theorem dX10_partByDegrees_57 : decode cX10_partByDegrees 57 = .ok (.ifCond .le 18, 3) := by decide +kernel
theorem dX10_partByDegrees_60 : decode cX10_partByDegrees 60 = .ok (.iload_n 3, 1) := by decide +kernel
theorem dX10_partByDegrees_61 : decode cX10_partByDegrees 61 = .ok (.ifCond .eq 14, 3) := by decide +kernel
theorem dX10_partByDegrees_64 : decode cX10_partByDegrees 64 = .ok (.aload_n 0, 1) := by decide +kernel
theorem dX10_partByDegrees_65 : decode cX10_partByDegrees 65 = .ok (.iconst 4, 1) := by decide +kernel
theorem dX10_partByDegrees_66 : decode cX10_partByDegrees 66 = .ok (.iload_n 2, 1) := by decide +kernel
theorem dX10_partByDegrees_67 : decode cX10_partByDegrees 67 = .ok (.invokevirtual 103, 3) := by decide +kernel
theorem dX10_partByDegrees_70 : decode cX10_partByDegrees 70 = .ok (.iconst 0, 1) := by decide +kernel
theorem dX10_partByDegrees_71 : decode cX10_partByDegrees 71 = .ok (.istore_n 3, 1) := by decide +kernel
theorem dX10_partByDegrees_72 : decode cX10_partByDegrees 72 = .ok (.goto 16, 3) := by decide +kernel
theorem dX10_partByDegrees_75 : decode cX10_partByDegrees 75 = .ok (.aload_n 0, 1) := by decide +kernel
theorem dX10_partByDegrees_76 : decode cX10_partByDegrees 76 = .ok (.iconst 4, 1) := by decide +kernel
theorem dX10_partByDegrees_77 : decode cX10_partByDegrees 77 = .ok (.invokevirtual 70, 3) := by decide +kernel
theorem dX10_partByDegrees_80 : decode cX10_partByDegrees 80 = .ok (.ifCond .le 8, 3) := by decide +kernel
theorem dX10_partByDegrees_83 : decode cX10_partByDegrees 83 = .ok (.aload_n 0, 1) := by decide +kernel
theorem dX10_partByDegrees_84 : decode cX10_partByDegrees 84 = .ok (.iconst 4, 1) := by decide +kernel
theorem dX10_partByDegrees_85 : decode cX10_partByDegrees 85 = .ok (.invokevirtual 112, 3) := by decide +kernel
theorem dX10_partByDegrees_88 : decode cX10_partByDegrees 88 = .ok (.iinc 4 1, 3) := by decide +kernel
theorem dX10_partByDegrees_91 : decode cX10_partByDegrees 91 = .ok (.goto (-61), 3) := by decide +kernel
theorem dX10_partByDegrees_94 : decode cX10_partByDegrees 94 = .ok (.iinc 2 1, 3) := by decide +kernel
theorem dX10_partByDegrees_97 : decode cX10_partByDegrees 97 = .ok (.goto (-83), 3) := by decide +kernel
theorem dX10_partByDegrees_100 : decode cX10_partByDegrees 100 = .ok (.aload_n 0, 1) := by decide +kernel
theorem dX10_partByDegrees_101 : decode cX10_partByDegrees 101 = .ok (.getfield 7, 3) := by decide +kernel
theorem dX10_partByDegrees_104 : decode cX10_partByDegrees 104 = .ok (.bipush 44, 2) := by decide +kernel
theorem dX10_partByDegrees_106 : decode cX10_partByDegrees 106 = .ok (.iaload, 1) := by decide +kernel
theorem dX10_partByDegrees_107 : decode cX10_partByDegrees 107 = .ok (.iload_n 1, 1) := by decide +kernel
theorem dX10_partByDegrees_108 : decode cX10_partByDegrees 108 = .ok (.if_icmp .ne 6, 3) := by decide +kernel
theorem dX10_partByDegrees_111 : decode cX10_partByDegrees 111 = .ok (.bipush (-5), 2) := by decide +kernel
theorem dX10_partByDegrees_113 : decode cX10_partByDegrees 113 = .ok (.ireturn, 1) := by decide +kernel
theorem dX10_partByDegrees_114 : decode cX10_partByDegrees 114 = .ok (.aload_n 0, 1) := by decide +kernel
theorem dX10_partByDegrees_115 : decode cX10_partByDegrees 115 = .ok (.invokevirtual 115, 3) := by decide +kernel
theorem dX10_partByDegrees_118 : decode cX10_partByDegrees 118 = .ok (.aload_n 0, 1) := by decide +kernel
theorem dX10_partByDegrees_119 : decode cX10_partByDegrees 119 = .ok (.invokevirtual 168, 3) := by decide +kernel
theorem dX10_partByDegrees_122 : decode cX10_partByDegrees 122 = .ok (.aload_n 0, 1) := by decide +kernel
theorem dX10_partByDegrees_123 : decode cX10_partByDegrees 123 = .ok (.getfield 7, 3) := by decide +kernel
theorem dX10_partByDegrees_126 : decode cX10_partByDegrees 126 = .ok (.bipush 44, 2) := by decide +kernel
theorem dX10_partByDegrees_128 : decode cX10_partByDegrees 128 = .ok (.iaload, 1) := by decide +kernel
theorem dX10_partByDegrees_129 : decode cX10_partByDegrees 129 = .ok (.ireturn, 1) := by decide +kernel
theorem dX10_placeOf_0 : decode cX10_placeOf 0 = .ok (.iconst 0, 1) := by decide +kernel
theorem dX10_placeOf_1 : decode cX10_placeOf 1 = .ok (.istore_n 2, 1) := by decide +kernel
theorem dX10_placeOf_2 : decode cX10_placeOf 2 = .ok (.iload_n 2, 1) := by decide +kernel
theorem dX10_placeOf_3 : decode cX10_placeOf 3 = .ok (.aload_n 0, 1) := by decide +kernel
theorem dX10_placeOf_4 : decode cX10_placeOf 4 = .ok (.getfield 7, 3) := by decide +kernel
theorem dX10_placeOf_7 : decode cX10_placeOf 7 = .ok (.bipush 44, 2) := by decide +kernel
theorem dX10_placeOf_9 : decode cX10_placeOf 9 = .ok (.iaload, 1) := by decide +kernel
theorem dX10_placeOf_10 : decode cX10_placeOf 10 = .ok (.if_icmp .ge 66, 3) := by decide +kernel
theorem dX10_placeOf_13 : decode cX10_placeOf 13 = .ok (.iconst 1, 1) := by decide +kernel
theorem dX10_placeOf_14 : decode cX10_placeOf 14 = .ok (.istore_n 3, 1) := by decide +kernel
theorem dX10_placeOf_15 : decode cX10_placeOf 15 = .ok (.iconst 0, 1) := by decide +kernel
theorem dX10_placeOf_16 : decode cX10_placeOf 16 = .ok (.istore 4, 2) := by decide +kernel
theorem dX10_placeOf_18 : decode cX10_placeOf 18 = .ok (.iload 4, 2) := by decide +kernel
theorem dX10_placeOf_20 : decode cX10_placeOf 20 = .ok (.bipush 7, 2) := by decide +kernel
theorem dX10_placeOf_22 : decode cX10_placeOf 22 = .ok (.if_icmp .ge 42, 3) := by decide +kernel
theorem dX10_placeOf_25 : decode cX10_placeOf 25 = .ok (.iload_n 3, 1) := by decide +kernel
theorem dX10_placeOf_26 : decode cX10_placeOf 26 = .ok (.aload_n 0, 1) := by decide +kernel
theorem dX10_placeOf_27 : decode cX10_placeOf 27 = .ok (.getfield 7, 3) := by decide +kernel
theorem dX10_placeOf_30 : decode cX10_placeOf 30 = .ok (.bipush 45, 2) := by decide +kernel
theorem dX10_placeOf_32 : decode cX10_placeOf 32 = .ok (.bipush 7, 2) := by decide +kernel
theorem dX10_placeOf_34 : decode cX10_placeOf 34 = .ok (.iload_n 2, 1) := by decide +kernel
theorem dX10_placeOf_35 : decode cX10_placeOf 35 = .ok (.imul, 1) := by decide +kernel
theorem dX10_placeOf_36 : decode cX10_placeOf 36 = .ok (.iadd, 1) := by decide +kernel
theorem dX10_placeOf_37 : decode cX10_placeOf 37 = .ok (.iload 4, 2) := by decide +kernel
theorem dX10_placeOf_39 : decode cX10_placeOf 39 = .ok (.iadd, 1) := by decide +kernel
theorem dX10_placeOf_40 : decode cX10_placeOf 40 = .ok (.iaload, 1) := by decide +kernel
theorem dX10_placeOf_41 : decode cX10_placeOf 41 = .ok (.aload_n 0, 1) := by decide +kernel
theorem dX10_placeOf_42 : decode cX10_placeOf 42 = .ok (.iload_n 1, 1) := by decide +kernel
theorem dX10_placeOf_43 : decode cX10_placeOf 43 = .ok (.iload 4, 2) := by decide +kernel
theorem dX10_placeOf_45 : decode cX10_placeOf 45 = .ok (.invokevirtual 55, 3) := by decide +kernel
theorem dX10_placeOf_48 : decode cX10_placeOf 48 = .ok (.if_icmp .ne 7, 3) := by decide +kernel
theorem dX10_placeOf_51 : decode cX10_placeOf 51 = .ok (.iconst 1, 1) := by decide +kernel
theorem dX10_placeOf_52 : decode cX10_placeOf 52 = .ok (.goto 4, 3) := by decide +kernel
theorem dX10_placeOf_55 : decode cX10_placeOf 55 = .ok (.iconst 0, 1) := by decide +kernel
theorem dX10_placeOf_56 : decode cX10_placeOf 56 = .ok (.iand, 1) := by decide +kernel
theorem dX10_placeOf_57 : decode cX10_placeOf 57 = .ok (.istore_n 3, 1) := by decide +kernel
theorem dX10_placeOf_58 : decode cX10_placeOf 58 = .ok (.iinc 4 1, 3) := by decide +kernel
theorem dX10_placeOf_61 : decode cX10_placeOf 61 = .ok (.goto (-43), 3) := by decide +kernel
theorem dX10_placeOf_64 : decode cX10_placeOf 64 = .ok (.iload_n 3, 1) := by decide +kernel
theorem dX10_placeOf_65 : decode cX10_placeOf 65 = .ok (.ifCond .eq 5, 3) := by decide +kernel
theorem dX10_placeOf_68 : decode cX10_placeOf 68 = .ok (.iload_n 2, 1) := by decide +kernel
theorem dX10_placeOf_69 : decode cX10_placeOf 69 = .ok (.ireturn, 1) := by decide +kernel
theorem dX10_placeOf_70 : decode cX10_placeOf 70 = .ok (.iinc 2 1, 3) := by decide +kernel
theorem dX10_placeOf_73 : decode cX10_placeOf 73 = .ok (.goto (-71), 3) := by decide +kernel
theorem dX10_placeOf_76 : decode cX10_placeOf 76 = .ok (.bipush (-5), 2) := by decide +kernel
theorem dX10_placeOf_78 : decode cX10_placeOf 78 = .ok (.ireturn, 1) := by decide +kernel
theorem dX10_join_0 : decode cX10_join 0 = .ok (.aload_n 0, 1) := by decide +kernel
theorem dX10_join_1 : decode cX10_join 1 = .ok (.iload_n 1, 1) := by decide +kernel
theorem dX10_join_2 : decode cX10_join 2 = .ok (.invokevirtual 162, 3) := by decide +kernel
theorem dX10_join_5 : decode cX10_join 5 = .ok (.ifCond .ne 11, 3) := by decide +kernel
theorem dX10_join_8 : decode cX10_join 8 = .ok (.aload_n 0, 1) := by decide +kernel
theorem dX10_join_9 : decode cX10_join 9 = .ok (.iload_n 2, 1) := by decide +kernel
theorem dX10_join_10 : decode cX10_join 10 = .ok (.invokevirtual 162, 3) := by decide +kernel
theorem dX10_join_13 : decode cX10_join 13 = .ok (.ifCond .eq 5, 3) := by decide +kernel
theorem dX10_join_16 : decode cX10_join 16 = .ok (.iconst (-1), 1) := by decide +kernel
theorem dX10_join_17 : decode cX10_join 17 = .ok (.ireturn, 1) := by decide +kernel
theorem dX10_join_18 : decode cX10_join 18 = .ok (.iload_n 1, 1) := by decide +kernel
theorem dX10_join_19 : decode cX10_join 19 = .ok (.iload_n 2, 1) := by decide +kernel
theorem dX10_join_20 : decode cX10_join 20 = .ok (.if_icmp .ne 6, 3) := by decide +kernel
theorem dX10_join_23 : decode cX10_join 23 = .ok (.bipush (-2), 2) := by decide +kernel
theorem dX10_join_25 : decode cX10_join 25 = .ok (.ireturn, 1) := by decide +kernel
theorem dX10_join_26 : decode cX10_join 26 = .ok (.aload_n 0, 1) := by decide +kernel
theorem dX10_join_27 : decode cX10_join 27 = .ok (.invokevirtual 131, 3) := by decide +kernel
theorem dX10_join_30 : decode cX10_join 30 = .ok (.aload_n 0, 1) := by decide +kernel
theorem dX10_join_31 : decode cX10_join 31 = .ok (.iload_n 1, 1) := by decide +kernel
theorem dX10_join_32 : decode cX10_join 32 = .ok (.iconst 2, 1) := by decide +kernel
theorem dX10_join_33 : decode cX10_join 33 = .ok (.invokevirtual 106, 3) := by decide +kernel
theorem dX10_join_36 : decode cX10_join 36 = .ok (.aload_n 0, 1) := by decide +kernel
theorem dX10_join_37 : decode cX10_join 37 = .ok (.iload_n 2, 1) := by decide +kernel
theorem dX10_join_38 : decode cX10_join 38 = .ok (.iconst 3, 1) := by decide +kernel
theorem dX10_join_39 : decode cX10_join 39 = .ok (.invokevirtual 106, 3) := by decide +kernel
theorem dX10_join_42 : decode cX10_join 42 = .ok (.aload_n 0, 1) := by decide +kernel
theorem dX10_join_43 : decode cX10_join 43 = .ok (.iconst 2, 1) := by decide +kernel
theorem dX10_join_44 : decode cX10_join 44 = .ok (.iconst 3, 1) := by decide +kernel
theorem dX10_join_45 : decode cX10_join 45 = .ok (.iconst 2, 1) := by decide +kernel
theorem dX10_join_46 : decode cX10_join 46 = .ok (.invokevirtual 90, 3) := by decide +kernel
theorem dX10_join_49 : decode cX10_join 49 = .ok (.aload_n 0, 1) := by decide +kernel
theorem dX10_join_50 : decode cX10_join 50 = .ok (.iload_n 1, 1) := by decide +kernel
theorem dX10_join_51 : decode cX10_join 51 = .ok (.iload_n 2, 1) := by decide +kernel
theorem dX10_join_52 : decode cX10_join 52 = .ok (.if_icmp .le 7, 3) := by decide +kernel
theorem dX10_join_55 : decode cX10_join 55 = .ok (.iload_n 1, 1) := by decide +kernel
theorem dX10_join_56 : decode cX10_join 56 = .ok (.goto 4, 3) := by decide +kernel
theorem dX10_join_59 : decode cX10_join 59 = .ok (.iload_n 2, 1) := by decide +kernel
theorem dX10_join_60 : decode cX10_join 60 = .ok (.invokevirtual 181, 3) := by decide +kernel
theorem dX10_join_63 : decode cX10_join 63 = .ok (.aload_n 0, 1) := by decide +kernel
theorem dX10_join_64 : decode cX10_join 64 = .ok (.iconst 2, 1) := by decide +kernel
theorem dX10_join_65 : decode cX10_join 65 = .ok (.iload_n 1, 1) := by decide +kernel
theorem dX10_join_66 : decode cX10_join 66 = .ok (.iload_n 2, 1) := by decide +kernel
theorem dX10_join_67 : decode cX10_join 67 = .ok (.if_icmp .le 7, 3) := by decide +kernel
theorem dX10_join_70 : decode cX10_join 70 = .ok (.iload_n 2, 1) := by decide +kernel
theorem dX10_join_71 : decode cX10_join 71 = .ok (.goto 4, 3) := by decide +kernel
theorem dX10_join_74 : decode cX10_join 74 = .ok (.iload_n 1, 1) := by decide +kernel
theorem dX10_join_75 : decode cX10_join 75 = .ok (.invokevirtual 103, 3) := by decide +kernel
theorem dX10_join_78 : decode cX10_join 78 = .ok (.aload_n 0, 1) := by decide +kernel
theorem dX10_join_79 : decode cX10_join 79 = .ok (.invokevirtual 115, 3) := by decide +kernel
theorem dX10_join_82 : decode cX10_join 82 = .ok (.aload_n 0, 1) := by decide +kernel
theorem dX10_join_83 : decode cX10_join 83 = .ok (.iconst 2, 1) := by decide +kernel
theorem dX10_join_84 : decode cX10_join 84 = .ok (.invokevirtual 184, 3) := by decide +kernel
theorem dX10_join_87 : decode cX10_join 87 = .ok (.ireturn, 1) := by decide +kernel
theorem dX10_joinAlike_0 : decode cX10_joinAlike 0 = .ok (.iload_n 1, 1) := by decide +kernel
theorem dX10_joinAlike_1 : decode cX10_joinAlike 1 = .ok (.invokestatic 156, 3) := by decide +kernel
theorem dX10_joinAlike_4 : decode cX10_joinAlike 4 = .ok (.ifCond .eq 5, 3) := by decide +kernel
theorem dX10_joinAlike_7 : decode cX10_joinAlike 7 = .ok (.iconst (-1), 1) := by decide +kernel
theorem dX10_joinAlike_8 : decode cX10_joinAlike 8 = .ok (.ireturn, 1) := by decide +kernel
theorem dX10_joinAlike_9 : decode cX10_joinAlike 9 = .ok (.aload_n 0, 1) := by decide +kernel
theorem dX10_joinAlike_10 : decode cX10_joinAlike 10 = .ok (.iload_n 1, 1) := by decide +kernel
theorem dX10_joinAlike_11 : decode cX10_joinAlike 11 = .ok (.iconst 2, 1) := by decide +kernel
theorem dX10_joinAlike_12 : decode cX10_joinAlike 12 = .ok (.invokevirtual 144, 3) := by decide +kernel
theorem dX10_joinAlike_15 : decode cX10_joinAlike 15 = .ok (.aload_n 0, 1) := by decide +kernel
theorem dX10_joinAlike_16 : decode cX10_joinAlike 16 = .ok (.bipush 8, 2) := by decide +kernel
theorem dX10_joinAlike_18 : decode cX10_joinAlike 18 = .ok (.iconst 1, 1) := by decide +kernel
theorem dX10_joinAlike_19 : decode cX10_joinAlike 19 = .ok (.invokevirtual 87, 3) := by decide +kernel
theorem dX10_joinAlike_22 : decode cX10_joinAlike 22 = .ok (.aload_n 0, 1) := by decide +kernel
theorem dX10_joinAlike_23 : decode cX10_joinAlike 23 = .ok (.bipush 9, 2) := by decide +kernel
theorem dX10_joinAlike_25 : decode cX10_joinAlike 25 = .ok (.iconst 1, 1) := by decide +kernel
theorem dX10_joinAlike_26 : decode cX10_joinAlike 26 = .ok (.invokevirtual 87, 3) := by decide +kernel
theorem dX10_joinAlike_29 : decode cX10_joinAlike 29 = .ok (.aload_n 0, 1) := by decide +kernel
theorem dX10_joinAlike_30 : decode cX10_joinAlike 30 = .ok (.getfield 7, 3) := by decide +kernel
theorem dX10_joinAlike_33 : decode cX10_joinAlike 33 = .ok (.bipush 44, 2) := by decide +kernel
theorem dX10_joinAlike_35 : decode cX10_joinAlike 35 = .ok (.iaload, 1) := by decide +kernel
theorem dX10_joinAlike_36 : decode cX10_joinAlike 36 = .ok (.istore_n 2, 1) := by decide +kernel
theorem dX10_joinAlike_37 : decode cX10_joinAlike 37 = .ok (.iconst 0, 1) := by decide +kernel
theorem dX10_joinAlike_38 : decode cX10_joinAlike 38 = .ok (.istore_n 3, 1) := by decide +kernel
theorem dX10_joinAlike_39 : decode cX10_joinAlike 39 = .ok (.iconst 0, 1) := by decide +kernel
theorem dX10_joinAlike_40 : decode cX10_joinAlike 40 = .ok (.istore 4, 2) := by decide +kernel
theorem dX10_joinAlike_42 : decode cX10_joinAlike 42 = .ok (.iload 4, 2) := by decide +kernel
theorem dX10_joinAlike_44 : decode cX10_joinAlike 44 = .ok (.iload_n 2, 1) := by decide +kernel
theorem dX10_joinAlike_45 : decode cX10_joinAlike 45 = .ok (.if_icmp .ge 74, 3) := by decide +kernel
theorem dX10_joinAlike_48 : decode cX10_joinAlike 48 = .ok (.aload_n 0, 1) := by decide +kernel
theorem dX10_joinAlike_49 : decode cX10_joinAlike 49 = .ok (.iload 4, 2) := by decide +kernel
theorem dX10_joinAlike_51 : decode cX10_joinAlike 51 = .ok (.iconst 1, 1) := by decide +kernel
theorem dX10_joinAlike_52 : decode cX10_joinAlike 52 = .ok (.invokevirtual 106, 3) := by decide +kernel
theorem dX10_joinAlike_55 : decode cX10_joinAlike 55 = .ok (.aload_n 0, 1) := by decide +kernel
theorem dX10_joinAlike_56 : decode cX10_joinAlike 56 = .ok (.iconst 2, 1) := by decide +kernel
theorem dX10_joinAlike_57 : decode cX10_joinAlike 57 = .ok (.invokevirtual 125, 3) := by decide +kernel
theorem dX10_joinAlike_60 : decode cX10_joinAlike 60 = .ok (.istore 5, 2) := by decide +kernel
theorem dX10_joinAlike_62 : decode cX10_joinAlike 62 = .ok (.iload 5, 2) := by decide +kernel
theorem dX10_joinAlike_64 : decode cX10_joinAlike 64 = .ok (.iconst 2, 1) := by decide +kernel
theorem dX10_joinAlike_65 : decode cX10_joinAlike 65 = .ok (.if_icmp .ne 6, 3) := by decide +kernel
theorem dX10_joinAlike_68 : decode cX10_joinAlike 68 = .ok (.bipush (-4), 2) := by decide +kernel
theorem dX10_joinAlike_70 : decode cX10_joinAlike 70 = .ok (.ireturn, 1) := by decide +kernel
theorem dX10_joinAlike_71 : decode cX10_joinAlike 71 = .ok (.iload_n 3, 1) := by decide +kernel
theorem dX10_joinAlike_72 : decode cX10_joinAlike 72 = .ok (.iload 5, 2) := by decide +kernel
theorem dX10_joinAlike_74 : decode cX10_joinAlike 74 = .ok (.ifCond .ne 7, 3) := by decide +kernel
theorem dX10_joinAlike_77 : decode cX10_joinAlike 77 = .ok (.iconst 1, 1) := by decide +kernel
theorem dX10_joinAlike_78 : decode cX10_joinAlike 78 = .ok (.goto 4, 3) := by decide +kernel
theorem dX10_joinAlike_81 : decode cX10_joinAlike 81 = .ok (.iconst 0, 1) := by decide +kernel
theorem dX10_joinAlike_82 : decode cX10_joinAlike 82 = .ok (.iadd, 1) := by decide +kernel
theorem dX10_joinAlike_83 : decode cX10_joinAlike 83 = .ok (.istore_n 3, 1) := by decide +kernel
theorem dX10_joinAlike_84 : decode cX10_joinAlike 84 = .ok (.aload_n 0, 1) := by decide +kernel
theorem dX10_joinAlike_85 : decode cX10_joinAlike 85 = .ok (.iconst 1, 1) := by decide +kernel
theorem dX10_joinAlike_86 : decode cX10_joinAlike 86 = .ok (.iload 5, 2) := by decide +kernel
theorem dX10_joinAlike_88 : decode cX10_joinAlike 88 = .ok (.ifCond .ne 8, 3) := by decide +kernel
theorem dX10_joinAlike_91 : decode cX10_joinAlike 91 = .ok (.bipush 8, 2) := by decide +kernel
theorem dX10_joinAlike_93 : decode cX10_joinAlike 93 = .ok (.goto 5, 3) := by decide +kernel
theorem dX10_joinAlike_96 : decode cX10_joinAlike 96 = .ok (.bipush 9, 2) := by decide +kernel
theorem dX10_joinAlike_98 : decode cX10_joinAlike 98 = .ok (.iload 5, 2) := by decide +kernel
theorem dX10_joinAlike_100 : decode cX10_joinAlike 100 = .ok (.ifCond .ne 8, 3) := by decide +kernel
theorem dX10_joinAlike_103 : decode cX10_joinAlike 103 = .ok (.bipush 8, 2) := by decide +kernel
theorem dX10_joinAlike_105 : decode cX10_joinAlike 105 = .ok (.goto 5, 3) := by decide +kernel
theorem dX10_joinAlike_108 : decode cX10_joinAlike 108 = .ok (.bipush 9, 2) := by decide +kernel
theorem dX10_joinAlike_110 : decode cX10_joinAlike 110 = .ok (.invokevirtual 90, 3) := by decide +kernel
theorem dX10_joinAlike_113 : decode cX10_joinAlike 113 = .ok (.iinc 4 1, 3) := by decide +kernel
theorem dX10_joinAlike_116 : decode cX10_joinAlike 116 = .ok (.goto (-74), 3) := by decide +kernel
theorem dX10_joinAlike_119 : decode cX10_joinAlike 119 = .ok (.iload_n 3, 1) := by decide +kernel
theorem dX10_joinAlike_120 : decode cX10_joinAlike 120 = .ok (.iconst 2, 1) := by decide +kernel
theorem dX10_joinAlike_121 : decode cX10_joinAlike 121 = .ok (.if_icmp .ge 13, 3) := by decide +kernel
theorem dX10_joinAlike_124 : decode cX10_joinAlike 124 = .ok (.iload_n 2, 1) := by decide +kernel
theorem dX10_joinAlike_125 : decode cX10_joinAlike 125 = .ok (.iload_n 3, 1) := by decide +kernel
theorem dX10_joinAlike_126 : decode cX10_joinAlike 126 = .ok (.isub, 1) := by decide +kernel
theorem dX10_joinAlike_127 : decode cX10_joinAlike 127 = .ok (.iconst 2, 1) := by decide +kernel
theorem dX10_joinAlike_128 : decode cX10_joinAlike 128 = .ok (.if_icmp .ge 6, 3) := by decide +kernel
theorem dX10_joinAlike_131 : decode cX10_joinAlike 131 = .ok (.bipush (-5), 2) := by decide +kernel
theorem dX10_joinAlike_133 : decode cX10_joinAlike 133 = .ok (.ireturn, 1) := by decide +kernel
theorem dX10_joinAlike_134 : decode cX10_joinAlike 134 = .ok (.aload_n 0, 1) := by decide +kernel
theorem dX10_joinAlike_135 : decode cX10_joinAlike 135 = .ok (.invokevirtual 131, 3) := by decide +kernel
theorem dX10_joinAlike_138 : decode cX10_joinAlike 138 = .ok (.aload_n 0, 1) := by decide +kernel
theorem dX10_joinAlike_139 : decode cX10_joinAlike 139 = .ok (.getfield 7, 3) := by decide +kernel
theorem dX10_joinAlike_142 : decode cX10_joinAlike 142 = .ok (.bipush 44, 2) := by decide +kernel
theorem dX10_joinAlike_144 : decode cX10_joinAlike 144 = .ok (.iconst 0, 1) := by decide +kernel
theorem dX10_joinAlike_145 : decode cX10_joinAlike 145 = .ok (.iastore, 1) := by decide +kernel
theorem dX10_joinAlike_146 : decode cX10_joinAlike 146 = .ok (.iload_n 3, 1) := by decide +kernel
theorem dX10_joinAlike_147 : decode cX10_joinAlike 147 = .ok (.ifCond .le 9, 3) := by decide +kernel
theorem dX10_joinAlike_150 : decode cX10_joinAlike 150 = .ok (.aload_n 0, 1) := by decide +kernel
theorem dX10_joinAlike_151 : decode cX10_joinAlike 151 = .ok (.bipush 8, 2) := by decide +kernel
theorem dX10_joinAlike_153 : decode cX10_joinAlike 153 = .ok (.invokevirtual 112, 3) := by decide +kernel
theorem dX10_joinAlike_156 : decode cX10_joinAlike 156 = .ok (.iload_n 2, 1) := by decide +kernel
theorem dX10_joinAlike_157 : decode cX10_joinAlike 157 = .ok (.iload_n 3, 1) := by decide +kernel
theorem dX10_joinAlike_158 : decode cX10_joinAlike 158 = .ok (.if_icmp .le 9, 3) := by decide +kernel
theorem dX10_joinAlike_161 : decode cX10_joinAlike 161 = .ok (.aload_n 0, 1) := by decide +kernel
theorem dX10_joinAlike_162 : decode cX10_joinAlike 162 = .ok (.bipush 9, 2) := by decide +kernel
theorem dX10_joinAlike_164 : decode cX10_joinAlike 164 = .ok (.invokevirtual 112, 3) := by decide +kernel
theorem dX10_joinAlike_167 : decode cX10_joinAlike 167 = .ok (.aload_n 0, 1) := by decide +kernel
theorem dX10_joinAlike_168 : decode cX10_joinAlike 168 = .ok (.invokevirtual 115, 3) := by decide +kernel
theorem dX10_joinAlike_171 : decode cX10_joinAlike 171 = .ok (.aload_n 0, 1) := by decide +kernel
theorem dX10_joinAlike_172 : decode cX10_joinAlike 172 = .ok (.getfield 7, 3) := by decide +kernel
theorem dX10_joinAlike_175 : decode cX10_joinAlike 175 = .ok (.bipush 44, 2) := by decide +kernel
theorem dX10_joinAlike_177 : decode cX10_joinAlike 177 = .ok (.iaload, 1) := by decide +kernel
theorem dX10_joinAlike_178 : decode cX10_joinAlike 178 = .ok (.ireturn, 1) := by decide +kernel
theorem dX10_type_0 : decode cX10_type 0 = .ok (.aload_n 0, 1) := by decide +kernel
theorem dX10_type_1 : decode cX10_type 1 = .ok (.getfield 187, 3) := by decide +kernel
theorem dX10_type_4 : decode cX10_type 4 = .ok (.bipush 60, 2) := by decide +kernel
theorem dX10_type_6 : decode cX10_type 6 = .ok (.if_icmp .ne 6, 3) := by decide +kernel
theorem dX10_type_9 : decode cX10_type 9 = .ok (.bipush (-3), 2) := by decide +kernel
theorem dX10_type_11 : decode cX10_type 11 = .ok (.ireturn, 1) := by decide +kernel
theorem dX10_type_12 : decode cX10_type 12 = .ok (.aload_n 0, 1) := by decide +kernel
theorem dX10_type_13 : decode cX10_type 13 = .ok (.getfield 28, 3) := by decide +kernel
theorem dX10_type_16 : decode cX10_type 16 = .ok (.aload_n 0, 1) := by decide +kernel
theorem dX10_type_17 : decode cX10_type 17 = .ok (.getfield 187, 3) := by decide +kernel
theorem dX10_type_20 : decode cX10_type 20 = .ok (.iload_n 1, 1) := by decide +kernel
theorem dX10_type_21 : decode cX10_type 21 = .ok (.castore, 1) := by decide +kernel
theorem dX10_type_22 : decode cX10_type 22 = .ok (.aload_n 0, 1) := by decide +kernel
theorem dX10_type_23 : decode cX10_type 23 = .ok (.dup, 1) := by decide +kernel
theorem dX10_type_24 : decode cX10_type 24 = .ok (.getfield 187, 3) := by decide +kernel
theorem dX10_type_27 : decode cX10_type 27 = .ok (.iconst 1, 1) := by decide +kernel
theorem dX10_type_28 : decode cX10_type 28 = .ok (.iadd, 1) := by decide +kernel
theorem dX10_type_29 : decode cX10_type 29 = .ok (.putfield 187, 3) := by decide +kernel
theorem dX10_type_32 : decode cX10_type 32 = .ok (.aload_n 0, 1) := by decide +kernel
theorem dX10_type_33 : decode cX10_type 33 = .ok (.getfield 187, 3) := by decide +kernel
theorem dX10_type_36 : decode cX10_type 36 = .ok (.ireturn, 1) := by decide +kernel
theorem dX10_clearText_0 : decode cX10_clearText 0 = .ok (.aload_n 0, 1) := by decide +kernel
theorem dX10_clearText_1 : decode cX10_clearText 1 = .ok (.getfield 187, 3) := by decide +kernel
theorem dX10_clearText_4 : decode cX10_clearText 4 = .ok (.istore_n 1, 1) := by decide +kernel
theorem dX10_clearText_5 : decode cX10_clearText 5 = .ok (.aload_n 0, 1) := by decide +kernel
theorem dX10_clearText_6 : decode cX10_clearText 6 = .ok (.iconst 0, 1) := by decide +kernel
theorem dX10_clearText_7 : decode cX10_clearText 7 = .ok (.putfield 187, 3) := by decide +kernel
theorem dX10_clearText_10 : decode cX10_clearText 10 = .ok (.iload_n 1, 1) := by decide +kernel
theorem dX10_clearText_11 : decode cX10_clearText 11 = .ok (.ireturn, 1) := by decide +kernel
theorem dX10_isBetween_0 : decode cX10_isBetween 0 = .ok (.aload_n 0, 1) := by decide +kernel
theorem dX10_isBetween_1 : decode cX10_isBetween 1 = .ok (.getfield 138, 3) := by decide +kernel
theorem dX10_isBetween_4 : decode cX10_isBetween 4 = .ok (.aload_n 0, 1) := by decide +kernel
theorem dX10_isBetween_5 : decode cX10_isBetween 5 = .ok (.getfield 187, 3) := by decide +kernel
theorem dX10_isBetween_8 : decode cX10_isBetween 8 = .ok (.if_icmp .ge 24, 3) := by decide +kernel
theorem dX10_isBetween_11 : decode cX10_isBetween 11 = .ok (.aload_n 0, 1) := by decide +kernel
theorem dX10_isBetween_12 : decode cX10_isBetween 12 = .ok (.getfield 28, 3) := by decide +kernel
theorem dX10_isBetween_15 : decode cX10_isBetween 15 = .ok (.aload_n 0, 1) := by decide +kernel
theorem dX10_isBetween_16 : decode cX10_isBetween 16 = .ok (.getfield 138, 3) := by decide +kernel
theorem dX10_isBetween_19 : decode cX10_isBetween 19 = .ok (.caload, 1) := by decide +kernel
theorem dX10_isBetween_20 : decode cX10_isBetween 20 = .ok (.iload_n 1, 1) := by decide +kernel
theorem dX10_isBetween_21 : decode cX10_isBetween 21 = .ok (.iload_n 2, 1) := by decide +kernel
theorem dX10_isBetween_22 : decode cX10_isBetween 22 = .ok (.invokestatic 47, 3) := by decide +kernel
theorem dX10_isBetween_25 : decode cX10_isBetween 25 = .ok (.ifCond .eq 7, 3) := by decide +kernel
theorem dX10_isBetween_28 : decode cX10_isBetween 28 = .ok (.iconst 1, 1) := by decide +kernel
theorem dX10_isBetween_29 : decode cX10_isBetween 29 = .ok (.goto 4, 3) := by decide +kernel
theorem dX10_isBetween_32 : decode cX10_isBetween 32 = .ok (.iconst 0, 1) := by decide +kernel
theorem dX10_isBetween_33 : decode cX10_isBetween 33 = .ok (.ireturn, 1) := by decide +kernel
theorem dX10_takes_0 : decode cX10_takes 0 = .ok (.aload_n 0, 1) := by decide +kernel
theorem dX10_takes_1 : decode cX10_takes 1 = .ok (.iload_n 1, 1) := by decide +kernel
theorem dX10_takes_2 : decode cX10_takes 2 = .ok (.iload_n 1, 1) := by decide +kernel
theorem dX10_takes_3 : decode cX10_takes 3 = .ok (.invokevirtual 190, 3) := by decide +kernel
theorem dX10_takes_6 : decode cX10_takes 6 = .ok (.istore_n 2, 1) := by decide +kernel
theorem dX10_takes_7 : decode cX10_takes 7 = .ok (.aload_n 0, 1) := by decide +kernel
theorem dX10_takes_8 : decode cX10_takes 8 = .ok (.dup, 1) := by decide +kernel
theorem dX10_takes_9 : decode cX10_takes 9 = .ok (.getfield 138, 3) := by decide +kernel
theorem dX10_takes_12 : decode cX10_takes 12 = .ok (.iload_n 2, 1) := by decide +kernel
theorem dX10_takes_13 : decode cX10_takes 13 = .ok (.ifCond .eq 7, 3) := by decide +kernel
theorem dX10_takes_16 : decode cX10_takes 16 = .ok (.iconst 1, 1) := by decide +kernel
theorem dX10_takes_17 : decode cX10_takes 17 = .ok (.goto 4, 3) := by decide +kernel
theorem dX10_takes_20 : decode cX10_takes 20 = .ok (.iconst 0, 1) := by decide +kernel
theorem dX10_takes_21 : decode cX10_takes 21 = .ok (.iadd, 1) := by decide +kernel
theorem dX10_takes_22 : decode cX10_takes 22 = .ok (.putfield 138, 3) := by decide +kernel
theorem dX10_takes_25 : decode cX10_takes 25 = .ok (.iload_n 2, 1) := by decide +kernel
theorem dX10_takes_26 : decode cX10_takes 26 = .ok (.ireturn, 1) := by decide +kernel
theorem dX10_coefficients_0 : decode cX10_coefficients 0 = .ok (.aload_n 0, 1) := by decide +kernel
theorem dX10_coefficients_1 : decode cX10_coefficients 1 = .ok (.iconst 0, 1) := by decide +kernel
theorem dX10_coefficients_2 : decode cX10_coefficients 2 = .ok (.putfield 138, 3) := by decide +kernel
theorem dX10_coefficients_5 : decode cX10_coefficients 5 = .ok (.iconst 0, 1) := by decide +kernel
theorem dX10_coefficients_6 : decode cX10_coefficients 6 = .ok (.istore_n 1, 1) := by decide +kernel
theorem dX10_coefficients_7 : decode cX10_coefficients 7 = .ok (.iconst 1, 1) := by decide +kernel
theorem dX10_coefficients_8 : decode cX10_coefficients 8 = .ok (.istore_n 2, 1) := by decide +kernel
theorem dX10_coefficients_9 : decode cX10_coefficients 9 = .ok (.iload_n 2, 1) := by decide +kernel
theorem dX10_coefficients_10 : decode cX10_coefficients 10 = .ok (.ifCond .eq 139, 3) := by decide +kernel
theorem dX10_coefficients_13 : decode cX10_coefficients 13 = .ok (.aload_n 0, 1) := by decide +kernel
theorem dX10_coefficients_14 : decode cX10_coefficients 14 = .ok (.bipush 48, 2) := by decide +kernel
theorem dX10_coefficients_16 : decode cX10_coefficients 16 = .ok (.bipush 57, 2) := by decide +kernel
theorem dX10_coefficients_18 : decode cX10_coefficients 18 = .ok (.invokevirtual 190, 3) := by decide +kernel
theorem dX10_coefficients_21 : decode cX10_coefficients 21 = .ok (.ifCond .ne 6, 3) := by decide +kernel
theorem dX10_coefficients_24 : decode cX10_coefficients 24 = .ok (.bipush (-5), 2) := by decide +kernel
theorem dX10_coefficients_26 : decode cX10_coefficients 26 = .ok (.ireturn, 1) := by decide +kernel
theorem dX10_coefficients_27 : decode cX10_coefficients 27 = .ok (.aload_n 0, 1) := by decide +kernel
theorem dX10_coefficients_28 : decode cX10_coefficients 28 = .ok (.getfield 32, 3) := by decide +kernel
theorem dX10_coefficients_31 : decode cX10_coefficients 31 = .ok (.iload_n 1, 1) := by decide +kernel
theorem dX10_coefficients_32 : decode cX10_coefficients 32 = .ok (.aload_n 0, 1) := by decide +kernel
theorem dX10_coefficients_33 : decode cX10_coefficients 33 = .ok (.getfield 28, 3) := by decide +kernel
theorem dX10_coefficients_36 : decode cX10_coefficients 36 = .ok (.aload_n 0, 1) := by decide +kernel
theorem dX10_coefficients_37 : decode cX10_coefficients 37 = .ok (.getfield 138, 3) := by decide +kernel
theorem dX10_coefficients_40 : decode cX10_coefficients 40 = .ok (.caload, 1) := by decide +kernel
theorem dX10_coefficients_41 : decode cX10_coefficients 41 = .ok (.bipush 48, 2) := by decide +kernel
theorem dX10_coefficients_43 : decode cX10_coefficients 43 = .ok (.isub, 1) := by decide +kernel
theorem dX10_coefficients_44 : decode cX10_coefficients 44 = .ok (.iastore, 1) := by decide +kernel
theorem dX10_coefficients_45 : decode cX10_coefficients 45 = .ok (.aload_n 0, 1) := by decide +kernel
theorem dX10_coefficients_46 : decode cX10_coefficients 46 = .ok (.dup, 1) := by decide +kernel
theorem dX10_coefficients_47 : decode cX10_coefficients 47 = .ok (.getfield 138, 3) := by decide +kernel
theorem dX10_coefficients_50 : decode cX10_coefficients 50 = .ok (.iconst 1, 1) := by decide +kernel
theorem dX10_coefficients_51 : decode cX10_coefficients 51 = .ok (.iadd, 1) := by decide +kernel
theorem dX10_coefficients_52 : decode cX10_coefficients 52 = .ok (.putfield 138, 3) := by decide +kernel
theorem dX10_coefficients_55 : decode cX10_coefficients 55 = .ok (.aload_n 0, 1) := by decide +kernel
theorem dX10_coefficients_56 : decode cX10_coefficients 56 = .ok (.getfield 32, 3) := by decide +kernel
theorem dX10_coefficients_59 : decode cX10_coefficients 59 = .ok (.iload_n 1, 1) := by decide +kernel
theorem dX10_coefficients_60 : decode cX10_coefficients 60 = .ok (.iaload, 1) := by decide +kernel
theorem dX10_coefficients_61 : decode cX10_coefficients 61 = .ok (.iconst 1, 1) := by decide +kernel
theorem dX10_coefficients_62 : decode cX10_coefficients 62 = .ok (.if_icmp .ne 45, 3) := by decide +kernel
theorem dX10_coefficients_65 : decode cX10_coefficients 65 = .ok (.aload_n 0, 1) := by decide +kernel
theorem dX10_coefficients_66 : decode cX10_coefficients 66 = .ok (.bipush 48, 2) := by decide +kernel
theorem dX10_coefficients_68 : decode cX10_coefficients 68 = .ok (.bipush 50, 2) := by decide +kernel
theorem dX10_coefficients_70 : decode cX10_coefficients 70 = .ok (.invokevirtual 190, 3) := by decide +kernel
theorem dX10_coefficients_73 : decode cX10_coefficients 73 = .ok (.ifCond .eq 34, 3) := by decide +kernel
theorem dX10_coefficients_76 : decode cX10_coefficients 76 = .ok (.aload_n 0, 1) := by decide +kernel
theorem dX10_coefficients_77 : decode cX10_coefficients 77 = .ok (.getfield 32, 3) := by decide +kernel
theorem dX10_coefficients_80 : decode cX10_coefficients 80 = .ok (.iload_n 1, 1) := by decide +kernel
theorem dX10_coefficients_81 : decode cX10_coefficients 81 = .ok (.bipush 10, 2) := by decide +kernel
theorem dX10_coefficients_83 : decode cX10_coefficients 83 = .ok (.aload_n 0, 1) := by decide +kernel
theorem dX10_coefficients_84 : decode cX10_coefficients 84 = .ok (.getfield 28, 3) := by decide +kernel
theorem dX10_coefficients_87 : decode cX10_coefficients 87 = .ok (.aload_n 0, 1) := by decide +kernel
theorem dX10_coefficients_88 : decode cX10_coefficients 88 = .ok (.getfield 138, 3) := by decide +kernel
theorem dX10_coefficients_91 : decode cX10_coefficients 91 = .ok (.caload, 1) := by decide +kernel
theorem dX10_coefficients_92 : decode cX10_coefficients 92 = .ok (.iadd, 1) := by decide +kernel
theorem dX10_coefficients_93 : decode cX10_coefficients 93 = .ok (.bipush 48, 2) := by decide +kernel
theorem dX10_coefficients_95 : decode cX10_coefficients 95 = .ok (.isub, 1) := by decide +kernel
theorem dX10_coefficients_96 : decode cX10_coefficients 96 = .ok (.iastore, 1) := by decide +kernel
theorem dX10_coefficients_97 : decode cX10_coefficients 97 = .ok (.aload_n 0, 1) := by decide +kernel
theorem dX10_coefficients_98 : decode cX10_coefficients 98 = .ok (.dup, 1) := by decide +kernel
theorem dX10_coefficients_99 : decode cX10_coefficients 99 = .ok (.getfield 138, 3) := by decide +kernel
theorem dX10_coefficients_102 : decode cX10_coefficients 102 = .ok (.iconst 1, 1) := by decide +kernel
theorem dX10_coefficients_103 : decode cX10_coefficients 103 = .ok (.iadd, 1) := by decide +kernel
theorem dX10_coefficients_104 : decode cX10_coefficients 104 = .ok (.putfield 138, 3) := by decide +kernel
theorem dX10_coefficients_107 : decode cX10_coefficients 107 = .ok (.iinc 1 1, 3) := by decide +kernel
theorem dX10_coefficients_110 : decode cX10_coefficients 110 = .ok (.aload_n 0, 1) := by decide +kernel
theorem dX10_coefficients_111 : decode cX10_coefficients 111 = .ok (.getfield 138, 3) := by decide +kernel
theorem dX10_coefficients_114 : decode cX10_coefficients 114 = .ok (.aload_n 0, 1) := by decide +kernel
theorem dX10_coefficients_115 : decode cX10_coefficients 115 = .ok (.getfield 187, 3) := by decide +kernel
theorem dX10_coefficients_118 : decode cX10_coefficients 118 = .ok (.if_icmp .ge 7, 3) := by decide +kernel
theorem dX10_coefficients_121 : decode cX10_coefficients 121 = .ok (.iconst 1, 1) := by decide +kernel
theorem dX10_coefficients_122 : decode cX10_coefficients 122 = .ok (.goto 4, 3) := by decide +kernel
theorem dX10_coefficients_125 : decode cX10_coefficients 125 = .ok (.iconst 0, 1) := by decide +kernel
theorem dX10_coefficients_126 : decode cX10_coefficients 126 = .ok (.istore_n 2, 1) := by decide +kernel
theorem dX10_coefficients_127 : decode cX10_coefficients 127 = .ok (.iload_n 2, 1) := by decide +kernel
theorem dX10_coefficients_128 : decode cX10_coefficients 128 = .ok (.ifCond .eq (-119), 3) := by decide +kernel
theorem dX10_coefficients_131 : decode cX10_coefficients 131 = .ok (.iload_n 1, 1) := by decide +kernel
theorem dX10_coefficients_132 : decode cX10_coefficients 132 = .ok (.bipush 7, 2) := by decide +kernel
theorem dX10_coefficients_134 : decode cX10_coefficients 134 = .ok (.if_icmp .eq 12, 3) := by decide +kernel
theorem dX10_coefficients_137 : decode cX10_coefficients 137 = .ok (.aload_n 0, 1) := by decide +kernel
theorem dX10_coefficients_138 : decode cX10_coefficients 138 = .ok (.bipush 44, 2) := by decide +kernel
theorem dX10_coefficients_140 : decode cX10_coefficients 140 = .ok (.invokevirtual 193, 3) := by decide +kernel
theorem dX10_coefficients_143 : decode cX10_coefficients 143 = .ok (.ifCond .ne (-134), 3) := by decide +kernel
theorem dX10_coefficients_146 : decode cX10_coefficients 146 = .ok (.bipush (-5), 2) := by decide +kernel
theorem dX10_coefficients_148 : decode cX10_coefficients 148 = .ok (.ireturn, 1) := by decide +kernel
theorem dX10_coefficients_149 : decode cX10_coefficients 149 = .ok (.iload_n 1, 1) := by decide +kernel
theorem dX10_coefficients_150 : decode cX10_coefficients 150 = .ok (.ireturn, 1) := by decide +kernel
theorem dX10_joinsProduct_0 : decode cX10_joinsProduct 0 = .ok (.iload_n 2, 1) := by decide +kernel
theorem dX10_joinsProduct_1 : decode cX10_joinsProduct 1 = .ok (.ifCond .ne 4, 3) := by decide +kernel
theorem dX10_joinsProduct_4 : decode cX10_joinsProduct 4 = .ok (.return_, 1) := by decide +kernel
theorem dX10_joinsProduct_5 : decode cX10_joinsProduct 5 = .ok (.bipush 26, 2) := by decide +kernel
theorem dX10_joinsProduct_7 : decode cX10_joinsProduct 7 = .ok (.iload_n 1, 1) := by decide +kernel
theorem dX10_joinsProduct_8 : decode cX10_joinsProduct 8 = .ok (.iadd, 1) := by decide +kernel
theorem dX10_joinsProduct_9 : decode cX10_joinsProduct 9 = .ok (.istore_n 3, 1) := by decide +kernel
theorem dX10_joinsProduct_10 : decode cX10_joinsProduct 10 = .ok (.aload_n 0, 1) := by decide +kernel
theorem dX10_joinsProduct_11 : decode cX10_joinsProduct 11 = .ok (.getfield 38, 3) := by decide +kernel
theorem dX10_joinsProduct_14 : decode cX10_joinsProduct 14 = .ok (.iload_n 1, 1) := by decide +kernel
theorem dX10_joinsProduct_15 : decode cX10_joinsProduct 15 = .ok (.iaload, 1) := by decide +kernel
theorem dX10_joinsProduct_16 : decode cX10_joinsProduct 16 = .ok (.ifCond .ne 13, 3) := by decide +kernel
theorem dX10_joinsProduct_19 : decode cX10_joinsProduct 19 = .ok (.aload_n 0, 1) := by decide +kernel
theorem dX10_joinsProduct_20 : decode cX10_joinsProduct 20 = .ok (.bipush 32, 2) := by decide +kernel
theorem dX10_joinsProduct_22 : decode cX10_joinsProduct 22 = .ok (.iload_n 3, 1) := by decide +kernel
theorem dX10_joinsProduct_23 : decode cX10_joinsProduct 23 = .ok (.invokevirtual 77, 3) := by decide +kernel
theorem dX10_joinsProduct_26 : decode cX10_joinsProduct 26 = .ok (.goto 40, 3) := by decide +kernel
theorem dX10_joinsProduct_29 : decode cX10_joinsProduct 29 = .ok (.aload_n 0, 1) := by decide +kernel
theorem dX10_joinsProduct_30 : decode cX10_joinsProduct 30 = .ok (.getfield 38, 3) := by decide +kernel
theorem dX10_joinsProduct_33 : decode cX10_joinsProduct 33 = .ok (.iload_n 1, 1) := by decide +kernel
theorem dX10_joinsProduct_34 : decode cX10_joinsProduct 34 = .ok (.iaload, 1) := by decide +kernel
theorem dX10_joinsProduct_35 : decode cX10_joinsProduct 35 = .ok (.bipush 42, 2) := by decide +kernel
theorem dX10_joinsProduct_37 : decode cX10_joinsProduct 37 = .ok (.if_icmp .ne 21, 3) := by decide +kernel
theorem dX10_joinsProduct_40 : decode cX10_joinsProduct 40 = .ok (.aload_n 0, 1) := by decide +kernel
theorem dX10_joinsProduct_41 : decode cX10_joinsProduct 41 = .ok (.iload_n 3, 1) := by decide +kernel
theorem dX10_joinsProduct_42 : decode cX10_joinsProduct 42 = .ok (.bipush 32, 2) := by decide +kernel
theorem dX10_joinsProduct_44 : decode cX10_joinsProduct 44 = .ok (.iload_n 3, 1) := by decide +kernel
theorem dX10_joinsProduct_45 : decode cX10_joinsProduct 45 = .ok (.invokevirtual 90, 3) := by decide +kernel
theorem dX10_joinsProduct_48 : decode cX10_joinsProduct 48 = .ok (.aload_n 0, 1) := by decide +kernel
theorem dX10_joinsProduct_49 : decode cX10_joinsProduct 49 = .ok (.iload_n 3, 1) := by decide +kernel
theorem dX10_joinsProduct_50 : decode cX10_joinsProduct 50 = .ok (.iconst 0, 1) := by decide +kernel
theorem dX10_joinsProduct_51 : decode cX10_joinsProduct 51 = .ok (.iconst (-1), 1) := by decide +kernel
theorem dX10_joinsProduct_52 : decode cX10_joinsProduct 52 = .ok (.invokevirtual 81, 3) := by decide +kernel
theorem dX10_joinsProduct_55 : decode cX10_joinsProduct 55 = .ok (.goto 11, 3) := by decide +kernel
theorem dX10_joinsProduct_58 : decode cX10_joinsProduct 58 = .ok (.aload_n 0, 1) := by decide +kernel
theorem dX10_joinsProduct_59 : decode cX10_joinsProduct 59 = .ok (.iload_n 3, 1) := by decide +kernel
theorem dX10_joinsProduct_60 : decode cX10_joinsProduct 60 = .ok (.bipush 32, 2) := by decide +kernel
theorem dX10_joinsProduct_62 : decode cX10_joinsProduct 62 = .ok (.iload_n 3, 1) := by decide +kernel
theorem dX10_joinsProduct_63 : decode cX10_joinsProduct 63 = .ok (.invokevirtual 196, 3) := by decide +kernel
theorem dX10_joinsProduct_66 : decode cX10_joinsProduct 66 = .ok (.return_, 1) := by decide +kernel
theorem dX10_joinsSum_0 : decode cX10_joinsSum 0 = .ok (.iload_n 2, 1) := by decide +kernel
theorem dX10_joinsSum_1 : decode cX10_joinsSum 1 = .ok (.ifCond .ne 4, 3) := by decide +kernel
theorem dX10_joinsSum_4 : decode cX10_joinsSum 4 = .ok (.return_, 1) := by decide +kernel
theorem dX10_joinsSum_5 : decode cX10_joinsSum 5 = .ok (.aload_n 0, 1) := by decide +kernel
theorem dX10_joinsSum_6 : decode cX10_joinsSum 6 = .ok (.getfield 35, 3) := by decide +kernel
theorem dX10_joinsSum_9 : decode cX10_joinsSum 9 = .ok (.iload_n 1, 1) := by decide +kernel
theorem dX10_joinsSum_10 : decode cX10_joinsSum 10 = .ok (.iaload, 1) := by decide +kernel
theorem dX10_joinsSum_11 : decode cX10_joinsSum 11 = .ok (.ifCond .ne 18, 3) := by decide +kernel
theorem dX10_joinsSum_14 : decode cX10_joinsSum 14 = .ok (.aload_n 0, 1) := by decide +kernel
theorem dX10_joinsSum_15 : decode cX10_joinsSum 15 = .ok (.bipush 26, 2) := by decide +kernel
theorem dX10_joinsSum_17 : decode cX10_joinsSum 17 = .ok (.iload_n 1, 1) := by decide +kernel
theorem dX10_joinsSum_18 : decode cX10_joinsSum 18 = .ok (.iadd, 1) := by decide +kernel
theorem dX10_joinsSum_19 : decode cX10_joinsSum 19 = .ok (.bipush 20, 2) := by decide +kernel
theorem dX10_joinsSum_21 : decode cX10_joinsSum 21 = .ok (.iload_n 1, 1) := by decide +kernel
theorem dX10_joinsSum_22 : decode cX10_joinsSum 22 = .ok (.iadd, 1) := by decide +kernel
theorem dX10_joinsSum_23 : decode cX10_joinsSum 23 = .ok (.invokevirtual 77, 3) := by decide +kernel
theorem dX10_joinsSum_26 : decode cX10_joinsSum 26 = .ok (.goto 38, 3) := by decide +kernel
theorem dX10_joinsSum_29 : decode cX10_joinsSum 29 = .ok (.aload_n 0, 1) := by decide +kernel
theorem dX10_joinsSum_30 : decode cX10_joinsSum 30 = .ok (.bipush 26, 2) := by decide +kernel
theorem dX10_joinsSum_32 : decode cX10_joinsSum 32 = .ok (.iload_n 1, 1) := by decide +kernel
theorem dX10_joinsSum_33 : decode cX10_joinsSum 33 = .ok (.iadd, 1) := by decide +kernel
theorem dX10_joinsSum_34 : decode cX10_joinsSum 34 = .ok (.bipush 20, 2) := by decide +kernel
theorem dX10_joinsSum_36 : decode cX10_joinsSum 36 = .ok (.iload_n 1, 1) := by decide +kernel
theorem dX10_joinsSum_37 : decode cX10_joinsSum 37 = .ok (.iadd, 1) := by decide +kernel
theorem dX10_joinsSum_38 : decode cX10_joinsSum 38 = .ok (.aload_n 0, 1) := by decide +kernel
theorem dX10_joinsSum_39 : decode cX10_joinsSum 39 = .ok (.getfield 35, 3) := by decide +kernel
theorem dX10_joinsSum_42 : decode cX10_joinsSum 42 = .ok (.iload_n 1, 1) := by decide +kernel
theorem dX10_joinsSum_43 : decode cX10_joinsSum 43 = .ok (.iaload, 1) := by decide +kernel
theorem dX10_joinsSum_44 : decode cX10_joinsSum 44 = .ok (.bipush 43, 2) := by decide +kernel
theorem dX10_joinsSum_46 : decode cX10_joinsSum 46 = .ok (.if_icmp .ne 7, 3) := by decide +kernel
theorem dX10_joinsSum_49 : decode cX10_joinsSum 49 = .ok (.iconst 1, 1) := by decide +kernel
theorem dX10_joinsSum_50 : decode cX10_joinsSum 50 = .ok (.goto 11, 3) := by decide +kernel
theorem dX10_joinsSum_53 : decode cX10_joinsSum 53 = .ok (.aload_n 0, 1) := by decide +kernel
theorem dX10_joinsSum_54 : decode cX10_joinsSum 54 = .ok (.getfield 7, 3) := by decide +kernel
theorem dX10_joinsSum_57 : decode cX10_joinsSum 57 = .ok (.iconst 0, 1) := by decide +kernel
theorem dX10_joinsSum_58 : decode cX10_joinsSum 58 = .ok (.iaload, 1) := by decide +kernel
theorem dX10_joinsSum_59 : decode cX10_joinsSum 59 = .ok (.iconst 1, 1) := by decide +kernel
theorem dX10_joinsSum_60 : decode cX10_joinsSum 60 = .ok (.isub, 1) := by decide +kernel
theorem dX10_joinsSum_61 : decode cX10_joinsSum 61 = .ok (.invokevirtual 93, 3) := by decide +kernel
theorem dX10_joinsSum_64 : decode cX10_joinsSum 64 = .ok (.return_, 1) := by decide +kernel
theorem dX10_takesSimple_0 : decode cX10_takesSimple 0 = .ok (.aload_n 0, 1) := by decide +kernel
theorem dX10_takesSimple_1 : decode cX10_takesSimple 1 = .ok (.bipush 97, 2) := by decide +kernel
theorem dX10_takesSimple_3 : decode cX10_takesSimple 3 = .ok (.bipush 102, 2) := by decide +kernel
theorem dX10_takesSimple_5 : decode cX10_takesSimple 5 = .ok (.invokevirtual 190, 3) := by decide +kernel
theorem dX10_takesSimple_8 : decode cX10_takesSimple 8 = .ok (.ifCond .eq 24, 3) := by decide +kernel
theorem dX10_takesSimple_11 : decode cX10_takesSimple 11 = .ok (.aload_n 0, 1) := by decide +kernel
theorem dX10_takesSimple_12 : decode cX10_takesSimple 12 = .ok (.aload_n 0, 1) := by decide +kernel
theorem dX10_takesSimple_13 : decode cX10_takesSimple 13 = .ok (.getfield 28, 3) := by decide +kernel
theorem dX10_takesSimple_16 : decode cX10_takesSimple 16 = .ok (.aload_n 0, 1) := by decide +kernel
theorem dX10_takesSimple_17 : decode cX10_takesSimple 17 = .ok (.getfield 138, 3) := by decide +kernel
theorem dX10_takesSimple_20 : decode cX10_takesSimple 20 = .ok (.caload, 1) := by decide +kernel
theorem dX10_takesSimple_21 : decode cX10_takesSimple 21 = .ok (.bipush 97, 2) := by decide +kernel
theorem dX10_takesSimple_23 : decode cX10_takesSimple 23 = .ok (.isub, 1) := by decide +kernel
theorem dX10_takesSimple_24 : decode cX10_takesSimple 24 = .ok (.bipush 32, 2) := by decide +kernel
theorem dX10_takesSimple_26 : decode cX10_takesSimple 26 = .ok (.invokevirtual 144, 3) := by decide +kernel
theorem dX10_takesSimple_29 : decode cX10_takesSimple 29 = .ok (.goto 65, 3) := by decide +kernel
theorem dX10_takesSimple_32 : decode cX10_takesSimple 32 = .ok (.aload_n 0, 1) := by decide +kernel
theorem dX10_takesSimple_33 : decode cX10_takesSimple 33 = .ok (.bipush 120, 2) := by decide +kernel
theorem dX10_takesSimple_35 : decode cX10_takesSimple 35 = .ok (.bipush 120, 2) := by decide +kernel
theorem dX10_takesSimple_37 : decode cX10_takesSimple 37 = .ok (.invokevirtual 190, 3) := by decide +kernel
theorem dX10_takesSimple_40 : decode cX10_takesSimple 40 = .ok (.ifCond .eq 20, 3) := by decide +kernel
theorem dX10_takesSimple_43 : decode cX10_takesSimple 43 = .ok (.aload_n 0, 1) := by decide +kernel
theorem dX10_takesSimple_44 : decode cX10_takesSimple 44 = .ok (.bipush 32, 2) := by decide +kernel
theorem dX10_takesSimple_46 : decode cX10_takesSimple 46 = .ok (.invokevirtual 63, 3) := by decide +kernel
theorem dX10_takesSimple_49 : decode cX10_takesSimple 49 = .ok (.aload_n 0, 1) := by decide +kernel
theorem dX10_takesSimple_50 : decode cX10_takesSimple 50 = .ok (.bipush 32, 2) := by decide +kernel
theorem dX10_takesSimple_52 : decode cX10_takesSimple 52 = .ok (.iconst 1, 1) := by decide +kernel
theorem dX10_takesSimple_53 : decode cX10_takesSimple 53 = .ok (.iconst 1, 1) := by decide +kernel
theorem dX10_takesSimple_54 : decode cX10_takesSimple 54 = .ok (.invokevirtual 59, 3) := by decide +kernel
theorem dX10_takesSimple_57 : decode cX10_takesSimple 57 = .ok (.goto 37, 3) := by decide +kernel
theorem dX10_takesSimple_60 : decode cX10_takesSimple 60 = .ok (.aload_n 0, 1) := by decide +kernel
theorem dX10_takesSimple_61 : decode cX10_takesSimple 61 = .ok (.bipush 48, 2) := by decide +kernel
theorem dX10_takesSimple_63 : decode cX10_takesSimple 63 = .ok (.bipush 57, 2) := by decide +kernel
theorem dX10_takesSimple_65 : decode cX10_takesSimple 65 = .ok (.invokevirtual 190, 3) := by decide +kernel
theorem dX10_takesSimple_68 : decode cX10_takesSimple 68 = .ok (.ifCond .eq 24, 3) := by decide +kernel
theorem dX10_takesSimple_71 : decode cX10_takesSimple 71 = .ok (.aload_n 0, 1) := by decide +kernel
theorem dX10_takesSimple_72 : decode cX10_takesSimple 72 = .ok (.bipush 32, 2) := by decide +kernel
theorem dX10_takesSimple_74 : decode cX10_takesSimple 74 = .ok (.aload_n 0, 1) := by decide +kernel
theorem dX10_takesSimple_75 : decode cX10_takesSimple 75 = .ok (.getfield 28, 3) := by decide +kernel
theorem dX10_takesSimple_78 : decode cX10_takesSimple 78 = .ok (.aload_n 0, 1) := by decide +kernel
theorem dX10_takesSimple_79 : decode cX10_takesSimple 79 = .ok (.getfield 138, 3) := by decide +kernel
theorem dX10_takesSimple_82 : decode cX10_takesSimple 82 = .ok (.caload, 1) := by decide +kernel
theorem dX10_takesSimple_83 : decode cX10_takesSimple 83 = .ok (.bipush 48, 2) := by decide +kernel
theorem dX10_takesSimple_85 : decode cX10_takesSimple 85 = .ok (.isub, 1) := by decide +kernel
theorem dX10_takesSimple_86 : decode cX10_takesSimple 86 = .ok (.invokevirtual 87, 3) := by decide +kernel
theorem dX10_takesSimple_89 : decode cX10_takesSimple 89 = .ok (.goto 5, 3) := by decide +kernel
theorem dX10_takesSimple_92 : decode cX10_takesSimple 92 = .ok (.iconst 0, 1) := by decide +kernel
theorem dX10_takesSimple_93 : decode cX10_takesSimple 93 = .ok (.ireturn, 1) := by decide +kernel
theorem dX10_takesSimple_94 : decode cX10_takesSimple 94 = .ok (.aload_n 0, 1) := by decide +kernel
theorem dX10_takesSimple_95 : decode cX10_takesSimple 95 = .ok (.dup, 1) := by decide +kernel
theorem dX10_takesSimple_96 : decode cX10_takesSimple 96 = .ok (.getfield 138, 3) := by decide +kernel
theorem dX10_takesSimple_99 : decode cX10_takesSimple 99 = .ok (.iconst 1, 1) := by decide +kernel
theorem dX10_takesSimple_100 : decode cX10_takesSimple 100 = .ok (.iadd, 1) := by decide +kernel
theorem dX10_takesSimple_101 : decode cX10_takesSimple 101 = .ok (.putfield 138, 3) := by decide +kernel
theorem dX10_takesSimple_104 : decode cX10_takesSimple 104 = .ok (.iload_n 1, 1) := by decide +kernel
theorem dX10_takesSimple_105 : decode cX10_takesSimple 105 = .ok (.ifCond .eq 11, 3) := by decide +kernel
theorem dX10_takesSimple_108 : decode cX10_takesSimple 108 = .ok (.aload_n 0, 1) := by decide +kernel
theorem dX10_takesSimple_109 : decode cX10_takesSimple 109 = .ok (.bipush 32, 2) := by decide +kernel
theorem dX10_takesSimple_111 : decode cX10_takesSimple 111 = .ok (.iconst 0, 1) := by decide +kernel
theorem dX10_takesSimple_112 : decode cX10_takesSimple 112 = .ok (.iconst (-1), 1) := by decide +kernel
theorem dX10_takesSimple_113 : decode cX10_takesSimple 113 = .ok (.invokevirtual 81, 3) := by decide +kernel
theorem dX10_takesSimple_116 : decode cX10_takesSimple 116 = .ok (.iconst 1, 1) := by decide +kernel
theorem dX10_takesSimple_117 : decode cX10_takesSimple 117 = .ok (.ireturn, 1) := by decide +kernel
theorem dX10_takesPower_0 : decode cX10_takesPower 0 = .ok (.aload_n 0, 1) := by decide +kernel
theorem dX10_takesPower_1 : decode cX10_takesPower 1 = .ok (.bipush 94, 2) := by decide +kernel
theorem dX10_takesPower_3 : decode cX10_takesPower 3 = .ok (.invokevirtual 193, 3) := by decide +kernel
theorem dX10_takesPower_6 : decode cX10_takesPower 6 = .ok (.ifCond .ne 5, 3) := by decide +kernel
theorem dX10_takesPower_9 : decode cX10_takesPower 9 = .ok (.iconst 1, 1) := by decide +kernel
theorem dX10_takesPower_10 : decode cX10_takesPower 10 = .ok (.ireturn, 1) := by decide +kernel
theorem dX10_takesPower_11 : decode cX10_takesPower 11 = .ok (.aload_n 0, 1) := by decide +kernel
theorem dX10_takesPower_12 : decode cX10_takesPower 12 = .ok (.bipush 48, 2) := by decide +kernel
theorem dX10_takesPower_14 : decode cX10_takesPower 14 = .ok (.bipush 57, 2) := by decide +kernel
theorem dX10_takesPower_16 : decode cX10_takesPower 16 = .ok (.invokevirtual 190, 3) := by decide +kernel
theorem dX10_takesPower_19 : decode cX10_takesPower 19 = .ok (.ifCond .ne 5, 3) := by decide +kernel
theorem dX10_takesPower_22 : decode cX10_takesPower 22 = .ok (.iconst 0, 1) := by decide +kernel
theorem dX10_takesPower_23 : decode cX10_takesPower 23 = .ok (.ireturn, 1) := by decide +kernel
theorem dX10_takesPower_24 : decode cX10_takesPower 24 = .ok (.iload_n 1, 1) := by decide +kernel
theorem dX10_takesPower_25 : decode cX10_takesPower 25 = .ok (.ifCond .eq 24, 3) := by decide +kernel
theorem dX10_takesPower_28 : decode cX10_takesPower 28 = .ok (.aload_n 0, 1) := by decide +kernel
theorem dX10_takesPower_29 : decode cX10_takesPower 29 = .ok (.bipush 32, 2) := by decide +kernel
theorem dX10_takesPower_31 : decode cX10_takesPower 31 = .ok (.aload_n 0, 1) := by decide +kernel
theorem dX10_takesPower_32 : decode cX10_takesPower 32 = .ok (.getfield 28, 3) := by decide +kernel
theorem dX10_takesPower_35 : decode cX10_takesPower 35 = .ok (.aload_n 0, 1) := by decide +kernel
theorem dX10_takesPower_36 : decode cX10_takesPower 36 = .ok (.getfield 138, 3) := by decide +kernel
theorem dX10_takesPower_39 : decode cX10_takesPower 39 = .ok (.caload, 1) := by decide +kernel
theorem dX10_takesPower_40 : decode cX10_takesPower 40 = .ok (.bipush 48, 2) := by decide +kernel
theorem dX10_takesPower_42 : decode cX10_takesPower 42 = .ok (.isub, 1) := by decide +kernel
theorem dX10_takesPower_43 : decode cX10_takesPower 43 = .ok (.iconst 0, 1) := by decide +kernel
theorem dX10_takesPower_44 : decode cX10_takesPower 44 = .ok (.bipush 32, 2) := by decide +kernel
theorem dX10_takesPower_46 : decode cX10_takesPower 46 = .ok (.invokevirtual 174, 3) := by decide +kernel
theorem dX10_takesPower_49 : decode cX10_takesPower 49 = .ok (.aload_n 0, 1) := by decide +kernel
theorem dX10_takesPower_50 : decode cX10_takesPower 50 = .ok (.dup, 1) := by decide +kernel
theorem dX10_takesPower_51 : decode cX10_takesPower 51 = .ok (.getfield 138, 3) := by decide +kernel
theorem dX10_takesPower_54 : decode cX10_takesPower 54 = .ok (.iconst 1, 1) := by decide +kernel
theorem dX10_takesPower_55 : decode cX10_takesPower 55 = .ok (.iadd, 1) := by decide +kernel
theorem dX10_takesPower_56 : decode cX10_takesPower 56 = .ok (.putfield 138, 3) := by decide +kernel
theorem dX10_takesPower_59 : decode cX10_takesPower 59 = .ok (.iconst 1, 1) := by decide +kernel
theorem dX10_takesPower_60 : decode cX10_takesPower 60 = .ok (.ireturn, 1) := by decide +kernel
theorem dX10_goesAlong_0 : decode cX10_goesAlong 0 = .ok (.aload_n 0, 1) := by decide +kernel
theorem dX10_goesAlong_1 : decode cX10_goesAlong 1 = .ok (.iconst 0, 1) := by decide +kernel
theorem dX10_goesAlong_2 : decode cX10_goesAlong 2 = .ok (.putfield 138, 3) := by decide +kernel
theorem dX10_goesAlong_5 : decode cX10_goesAlong 5 = .ok (.aload_n 0, 1) := by decide +kernel
theorem dX10_goesAlong_6 : decode cX10_goesAlong 6 = .ok (.bipush 97, 2) := by decide +kernel
theorem dX10_goesAlong_8 : decode cX10_goesAlong 8 = .ok (.bipush 102, 2) := by decide +kernel
theorem dX10_goesAlong_10 : decode cX10_goesAlong 10 = .ok (.invokevirtual 190, 3) := by decide +kernel
theorem dX10_goesAlong_13 : decode cX10_goesAlong 13 = .ok (.ifCond .ne 5, 3) := by decide +kernel
theorem dX10_goesAlong_16 : decode cX10_goesAlong 16 = .ok (.iconst 0, 1) := by decide +kernel
theorem dX10_goesAlong_17 : decode cX10_goesAlong 17 = .ok (.ireturn, 1) := by decide +kernel
theorem dX10_goesAlong_18 : decode cX10_goesAlong 18 = .ok (.aload_n 0, 1) := by decide +kernel
theorem dX10_goesAlong_19 : decode cX10_goesAlong 19 = .ok (.dup, 1) := by decide +kernel
theorem dX10_goesAlong_20 : decode cX10_goesAlong 20 = .ok (.getfield 138, 3) := by decide +kernel
theorem dX10_goesAlong_23 : decode cX10_goesAlong 23 = .ok (.iconst 1, 1) := by decide +kernel
theorem dX10_goesAlong_24 : decode cX10_goesAlong 24 = .ok (.iadd, 1) := by decide +kernel
theorem dX10_goesAlong_25 : decode cX10_goesAlong 25 = .ok (.putfield 138, 3) := by decide +kernel
theorem dX10_goesAlong_28 : decode cX10_goesAlong 28 = .ok (.aload_n 0, 1) := by decide +kernel
theorem dX10_goesAlong_29 : decode cX10_goesAlong 29 = .ok (.bipush 61, 2) := by decide +kernel
theorem dX10_goesAlong_31 : decode cX10_goesAlong 31 = .ok (.invokevirtual 193, 3) := by decide +kernel
theorem dX10_goesAlong_34 : decode cX10_goesAlong 34 = .ok (.ifCond .ne 5, 3) := by decide +kernel
theorem dX10_goesAlong_37 : decode cX10_goesAlong 37 = .ok (.iconst 0, 1) := by decide +kernel
theorem dX10_goesAlong_38 : decode cX10_goesAlong 38 = .ok (.ireturn, 1) := by decide +kernel
theorem dX10_goesAlong_39 : decode cX10_goesAlong 39 = .ok (.iconst 0, 1) := by decide +kernel
theorem dX10_goesAlong_40 : decode cX10_goesAlong 40 = .ok (.istore_n 2, 1) := by decide +kernel
theorem dX10_goesAlong_41 : decode cX10_goesAlong 41 = .ok (.aload_n 0, 1) := by decide +kernel
theorem dX10_goesAlong_42 : decode cX10_goesAlong 42 = .ok (.getfield 35, 3) := by decide +kernel
theorem dX10_goesAlong_45 : decode cX10_goesAlong 45 = .ok (.iconst 0, 1) := by decide +kernel
theorem dX10_goesAlong_46 : decode cX10_goesAlong 46 = .ok (.iconst 0, 1) := by decide +kernel
theorem dX10_goesAlong_47 : decode cX10_goesAlong 47 = .ok (.iastore, 1) := by decide +kernel
theorem dX10_goesAlong_48 : decode cX10_goesAlong 48 = .ok (.aload_n 0, 1) := by decide +kernel
theorem dX10_goesAlong_49 : decode cX10_goesAlong 49 = .ok (.getfield 38, 3) := by decide +kernel
theorem dX10_goesAlong_52 : decode cX10_goesAlong 52 = .ok (.iconst 0, 1) := by decide +kernel
theorem dX10_goesAlong_53 : decode cX10_goesAlong 53 = .ok (.iconst 0, 1) := by decide +kernel
theorem dX10_goesAlong_54 : decode cX10_goesAlong 54 = .ok (.iastore, 1) := by decide +kernel
theorem dX10_goesAlong_55 : decode cX10_goesAlong 55 = .ok (.iload_n 2, 1) := by decide +kernel
theorem dX10_goesAlong_56 : decode cX10_goesAlong 56 = .ok (.iconst 5, 1) := by decide +kernel
theorem dX10_goesAlong_57 : decode cX10_goesAlong 57 = .ok (.if_icmp .ge 32, 3) := by decide +kernel
theorem dX10_goesAlong_60 : decode cX10_goesAlong 60 = .ok (.aload_n 0, 1) := by decide +kernel
theorem dX10_goesAlong_61 : decode cX10_goesAlong 61 = .ok (.bipush 40, 2) := by decide +kernel
theorem dX10_goesAlong_63 : decode cX10_goesAlong 63 = .ok (.invokevirtual 193, 3) := by decide +kernel
theorem dX10_goesAlong_66 : decode cX10_goesAlong 66 = .ok (.ifCond .eq 23, 3) := by decide +kernel
theorem dX10_goesAlong_69 : decode cX10_goesAlong 69 = .ok (.iinc 2 1, 3) := by decide +kernel
theorem dX10_goesAlong_72 : decode cX10_goesAlong 72 = .ok (.aload_n 0, 1) := by decide +kernel
theorem dX10_goesAlong_73 : decode cX10_goesAlong 73 = .ok (.getfield 35, 3) := by decide +kernel
theorem dX10_goesAlong_76 : decode cX10_goesAlong 76 = .ok (.iload_n 2, 1) := by decide +kernel
theorem dX10_goesAlong_77 : decode cX10_goesAlong 77 = .ok (.iconst 0, 1) := by decide +kernel
theorem dX10_goesAlong_78 : decode cX10_goesAlong 78 = .ok (.iastore, 1) := by decide +kernel
theorem dX10_goesAlong_79 : decode cX10_goesAlong 79 = .ok (.aload_n 0, 1) := by decide +kernel
theorem dX10_goesAlong_80 : decode cX10_goesAlong 80 = .ok (.getfield 38, 3) := by decide +kernel
theorem dX10_goesAlong_83 : decode cX10_goesAlong 83 = .ok (.iload_n 2, 1) := by decide +kernel
theorem dX10_goesAlong_84 : decode cX10_goesAlong 84 = .ok (.iconst 0, 1) := by decide +kernel
theorem dX10_goesAlong_85 : decode cX10_goesAlong 85 = .ok (.iastore, 1) := by decide +kernel
theorem dX10_goesAlong_86 : decode cX10_goesAlong 86 = .ok (.goto (-31), 3) := by decide +kernel
theorem dX10_goesAlong_89 : decode cX10_goesAlong 89 = .ok (.aload_n 0, 1) := by decide +kernel
theorem dX10_goesAlong_90 : decode cX10_goesAlong 90 = .ok (.iload_n 1, 1) := by decide +kernel
theorem dX10_goesAlong_91 : decode cX10_goesAlong 91 = .ok (.invokevirtual 199, 3) := by decide +kernel
theorem dX10_goesAlong_94 : decode cX10_goesAlong 94 = .ok (.ifCond .eq 11, 3) := by decide +kernel
theorem dX10_goesAlong_97 : decode cX10_goesAlong 97 = .ok (.aload_n 0, 1) := by decide +kernel
theorem dX10_goesAlong_98 : decode cX10_goesAlong 98 = .ok (.iload_n 1, 1) := by decide +kernel
theorem dX10_goesAlong_99 : decode cX10_goesAlong 99 = .ok (.invokevirtual 203, 3) := by decide +kernel
theorem dX10_goesAlong_102 : decode cX10_goesAlong 102 = .ok (.ifCond .ne 5, 3) := by decide +kernel
theorem dX10_goesAlong_105 : decode cX10_goesAlong 105 = .ok (.iconst 0, 1) := by decide +kernel
theorem dX10_goesAlong_106 : decode cX10_goesAlong 106 = .ok (.ireturn, 1) := by decide +kernel
theorem dX10_goesAlong_107 : decode cX10_goesAlong 107 = .ok (.aload_n 0, 1) := by decide +kernel
theorem dX10_goesAlong_108 : decode cX10_goesAlong 108 = .ok (.iload_n 2, 1) := by decide +kernel
theorem dX10_goesAlong_109 : decode cX10_goesAlong 109 = .ok (.iload_n 1, 1) := by decide +kernel
theorem dX10_goesAlong_110 : decode cX10_goesAlong 110 = .ok (.invokevirtual 206, 3) := by decide +kernel
theorem dX10_goesAlong_113 : decode cX10_goesAlong 113 = .ok (.iload_n 2, 1) := by decide +kernel
theorem dX10_goesAlong_114 : decode cX10_goesAlong 114 = .ok (.ifCond .le 50, 3) := by decide +kernel
theorem dX10_goesAlong_117 : decode cX10_goesAlong 117 = .ok (.aload_n 0, 1) := by decide +kernel
theorem dX10_goesAlong_118 : decode cX10_goesAlong 118 = .ok (.bipush 41, 2) := by decide +kernel
theorem dX10_goesAlong_120 : decode cX10_goesAlong 120 = .ok (.invokevirtual 193, 3) := by decide +kernel
theorem dX10_goesAlong_123 : decode cX10_goesAlong 123 = .ok (.ifCond .eq 41, 3) := by decide +kernel
theorem dX10_goesAlong_126 : decode cX10_goesAlong 126 = .ok (.aload_n 0, 1) := by decide +kernel
theorem dX10_goesAlong_127 : decode cX10_goesAlong 127 = .ok (.iload_n 2, 1) := by decide +kernel
theorem dX10_goesAlong_128 : decode cX10_goesAlong 128 = .ok (.iload_n 1, 1) := by decide +kernel
theorem dX10_goesAlong_129 : decode cX10_goesAlong 129 = .ok (.invokevirtual 210, 3) := by decide +kernel
theorem dX10_goesAlong_132 : decode cX10_goesAlong 132 = .ok (.aload_n 0, 1) := by decide +kernel
theorem dX10_goesAlong_133 : decode cX10_goesAlong 133 = .ok (.bipush 20, 2) := by decide +kernel
theorem dX10_goesAlong_135 : decode cX10_goesAlong 135 = .ok (.iload_n 2, 1) := by decide +kernel
theorem dX10_goesAlong_136 : decode cX10_goesAlong 136 = .ok (.iadd, 1) := by decide +kernel
theorem dX10_goesAlong_137 : decode cX10_goesAlong 137 = .ok (.bipush 32, 2) := by decide +kernel
theorem dX10_goesAlong_139 : decode cX10_goesAlong 139 = .ok (.invokevirtual 77, 3) := by decide +kernel
theorem dX10_goesAlong_142 : decode cX10_goesAlong 142 = .ok (.iinc 2 (-1), 3) := by decide +kernel
theorem dX10_goesAlong_145 : decode cX10_goesAlong 145 = .ok (.aload_n 0, 1) := by decide +kernel
theorem dX10_goesAlong_146 : decode cX10_goesAlong 146 = .ok (.iload_n 1, 1) := by decide +kernel
theorem dX10_goesAlong_147 : decode cX10_goesAlong 147 = .ok (.invokevirtual 203, 3) := by decide +kernel
theorem dX10_goesAlong_150 : decode cX10_goesAlong 150 = .ok (.ifCond .ne 5, 3) := by decide +kernel
theorem dX10_goesAlong_153 : decode cX10_goesAlong 153 = .ok (.iconst 0, 1) := by decide +kernel
theorem dX10_goesAlong_154 : decode cX10_goesAlong 154 = .ok (.ireturn, 1) := by decide +kernel
theorem dX10_goesAlong_155 : decode cX10_goesAlong 155 = .ok (.aload_n 0, 1) := by decide +kernel
theorem dX10_goesAlong_156 : decode cX10_goesAlong 156 = .ok (.iload_n 2, 1) := by decide +kernel
theorem dX10_goesAlong_157 : decode cX10_goesAlong 157 = .ok (.iload_n 1, 1) := by decide +kernel
theorem dX10_goesAlong_158 : decode cX10_goesAlong 158 = .ok (.invokevirtual 206, 3) := by decide +kernel
theorem dX10_goesAlong_161 : decode cX10_goesAlong 161 = .ok (.goto (-48), 3) := by decide +kernel
theorem dX10_goesAlong_164 : decode cX10_goesAlong 164 = .ok (.aload_n 0, 1) := by decide +kernel
theorem dX10_goesAlong_165 : decode cX10_goesAlong 165 = .ok (.getfield 138, 3) := by decide +kernel
theorem dX10_goesAlong_168 : decode cX10_goesAlong 168 = .ok (.aload_n 0, 1) := by decide +kernel
theorem dX10_goesAlong_169 : decode cX10_goesAlong 169 = .ok (.getfield 187, 3) := by decide +kernel
theorem dX10_goesAlong_172 : decode cX10_goesAlong 172 = .ok (.if_icmp .ne 31, 3) := by decide +kernel
theorem dX10_goesAlong_175 : decode cX10_goesAlong 175 = .ok (.aload_n 0, 1) := by decide +kernel
theorem dX10_goesAlong_176 : decode cX10_goesAlong 176 = .ok (.iconst 0, 1) := by decide +kernel
theorem dX10_goesAlong_177 : decode cX10_goesAlong 177 = .ok (.iload_n 1, 1) := by decide +kernel
theorem dX10_goesAlong_178 : decode cX10_goesAlong 178 = .ok (.ifCond .eq 11, 3) := by decide +kernel
theorem dX10_goesAlong_181 : decode cX10_goesAlong 181 = .ok (.iload_n 2, 1) := by decide +kernel
theorem dX10_goesAlong_182 : decode cX10_goesAlong 182 = .ok (.ifCond .ne 7, 3) := by decide +kernel
theorem dX10_goesAlong_185 : decode cX10_goesAlong 185 = .ok (.iconst 1, 1) := by decide +kernel
theorem dX10_goesAlong_186 : decode cX10_goesAlong 186 = .ok (.goto 4, 3) := by decide +kernel
theorem dX10_goesAlong_189 : decode cX10_goesAlong 189 = .ok (.iconst 0, 1) := by decide +kernel
theorem dX10_goesAlong_190 : decode cX10_goesAlong 190 = .ok (.invokevirtual 210, 3) := by decide +kernel
theorem dX10_goesAlong_193 : decode cX10_goesAlong 193 = .ok (.iload_n 2, 1) := by decide +kernel
theorem dX10_goesAlong_194 : decode cX10_goesAlong 194 = .ok (.ifCond .ne 7, 3) := by decide +kernel
theorem dX10_goesAlong_197 : decode cX10_goesAlong 197 = .ok (.iconst 1, 1) := by decide +kernel
theorem dX10_goesAlong_198 : decode cX10_goesAlong 198 = .ok (.goto 4, 3) := by decide +kernel
theorem dX10_goesAlong_201 : decode cX10_goesAlong 201 = .ok (.iconst 0, 1) := by decide +kernel
theorem dX10_goesAlong_202 : decode cX10_goesAlong 202 = .ok (.ireturn, 1) := by decide +kernel
theorem dX10_goesAlong_203 : decode cX10_goesAlong 203 = .ok (.aload_n 0, 1) := by decide +kernel
theorem dX10_goesAlong_204 : decode cX10_goesAlong 204 = .ok (.getfield 28, 3) := by decide +kernel
theorem dX10_goesAlong_207 : decode cX10_goesAlong 207 = .ok (.aload_n 0, 1) := by decide +kernel
theorem dX10_goesAlong_208 : decode cX10_goesAlong 208 = .ok (.getfield 138, 3) := by decide +kernel
theorem dX10_goesAlong_211 : decode cX10_goesAlong 211 = .ok (.caload, 1) := by decide +kernel
theorem dX10_goesAlong_212 : decode cX10_goesAlong 212 = .ok (.istore_n 3, 1) := by decide +kernel
theorem dX10_goesAlong_213 : decode cX10_goesAlong 213 = .ok (.iload_n 3, 1) := by decide +kernel
theorem dX10_goesAlong_214 : decode cX10_goesAlong 214 = .ok (.bipush 43, 2) := by decide +kernel
theorem dX10_goesAlong_216 : decode cX10_goesAlong 216 = .ok (.if_icmp .eq 9, 3) := by decide +kernel
theorem dX10_goesAlong_219 : decode cX10_goesAlong 219 = .ok (.iload_n 3, 1) := by decide +kernel
theorem dX10_goesAlong_220 : decode cX10_goesAlong 220 = .ok (.bipush 45, 2) := by decide +kernel
theorem dX10_goesAlong_222 : decode cX10_goesAlong 222 = .ok (.if_icmp .ne 26, 3) := by decide +kernel
theorem dX10_goesAlong_225 : decode cX10_goesAlong 225 = .ok (.aload_n 0, 1) := by decide +kernel
theorem dX10_goesAlong_226 : decode cX10_goesAlong 226 = .ok (.iload_n 2, 1) := by decide +kernel
theorem dX10_goesAlong_227 : decode cX10_goesAlong 227 = .ok (.iload_n 1, 1) := by decide +kernel
theorem dX10_goesAlong_228 : decode cX10_goesAlong 228 = .ok (.invokevirtual 210, 3) := by decide +kernel
theorem dX10_goesAlong_231 : decode cX10_goesAlong 231 = .ok (.aload_n 0, 1) := by decide +kernel
theorem dX10_goesAlong_232 : decode cX10_goesAlong 232 = .ok (.getfield 35, 3) := by decide +kernel
theorem dX10_goesAlong_235 : decode cX10_goesAlong 235 = .ok (.iload_n 2, 1) := by decide +kernel
theorem dX10_goesAlong_236 : decode cX10_goesAlong 236 = .ok (.iload_n 3, 1) := by decide +kernel
theorem dX10_goesAlong_237 : decode cX10_goesAlong 237 = .ok (.iastore, 1) := by decide +kernel
theorem dX10_goesAlong_238 : decode cX10_goesAlong 238 = .ok (.aload_n 0, 1) := by decide +kernel
theorem dX10_goesAlong_239 : decode cX10_goesAlong 239 = .ok (.getfield 38, 3) := by decide +kernel
theorem dX10_goesAlong_242 : decode cX10_goesAlong 242 = .ok (.iload_n 2, 1) := by decide +kernel
theorem dX10_goesAlong_243 : decode cX10_goesAlong 243 = .ok (.iconst 0, 1) := by decide +kernel
theorem dX10_goesAlong_244 : decode cX10_goesAlong 244 = .ok (.iastore, 1) := by decide +kernel
theorem dX10_goesAlong_245 : decode cX10_goesAlong 245 = .ok (.goto 27, 3) := by decide +kernel
theorem dX10_goesAlong_248 : decode cX10_goesAlong 248 = .ok (.iload_n 3, 1) := by decide +kernel
theorem dX10_goesAlong_249 : decode cX10_goesAlong 249 = .ok (.bipush 42, 2) := by decide +kernel
theorem dX10_goesAlong_251 : decode cX10_goesAlong 251 = .ok (.if_icmp .eq 9, 3) := by decide +kernel
theorem dX10_goesAlong_254 : decode cX10_goesAlong 254 = .ok (.iload_n 3, 1) := by decide +kernel
theorem dX10_goesAlong_255 : decode cX10_goesAlong 255 = .ok (.bipush 47, 2) := by decide +kernel
theorem dX10_goesAlong_257 : decode cX10_goesAlong 257 = .ok (.if_icmp .ne 13, 3) := by decide +kernel
theorem dX10_goesAlong_260 : decode cX10_goesAlong 260 = .ok (.aload_n 0, 1) := by decide +kernel
theorem dX10_goesAlong_261 : decode cX10_goesAlong 261 = .ok (.getfield 38, 3) := by decide +kernel
theorem dX10_goesAlong_264 : decode cX10_goesAlong 264 = .ok (.iload_n 2, 1) := by decide +kernel
theorem dX10_goesAlong_265 : decode cX10_goesAlong 265 = .ok (.iload_n 3, 1) := by decide +kernel
theorem dX10_goesAlong_266 : decode cX10_goesAlong 266 = .ok (.iastore, 1) := by decide +kernel
theorem dX10_goesAlong_267 : decode cX10_goesAlong 267 = .ok (.goto 5, 3) := by decide +kernel
theorem dX10_goesAlong_270 : decode cX10_goesAlong 270 = .ok (.iconst 0, 1) := by decide +kernel
theorem dX10_goesAlong_271 : decode cX10_goesAlong 271 = .ok (.ireturn, 1) := by decide +kernel
theorem dX10_goesAlong_272 : decode cX10_goesAlong 272 = .ok (.aload_n 0, 1) := by decide +kernel
theorem dX10_goesAlong_273 : decode cX10_goesAlong 273 = .ok (.dup, 1) := by decide +kernel
theorem dX10_goesAlong_274 : decode cX10_goesAlong 274 = .ok (.getfield 138, 3) := by decide +kernel
theorem dX10_goesAlong_277 : decode cX10_goesAlong 277 = .ok (.iconst 1, 1) := by decide +kernel
theorem dX10_goesAlong_278 : decode cX10_goesAlong 278 = .ok (.iadd, 1) := by decide +kernel
theorem dX10_goesAlong_279 : decode cX10_goesAlong 279 = .ok (.putfield 138, 3) := by decide +kernel
theorem dX10_goesAlong_282 : decode cX10_goesAlong 282 = .ok (.goto (-227), 3) := by decide +kernel
theorem dX10_assign_0 : decode cX10_assign 0 = .ok (.aload_n 0, 1) := by decide +kernel
theorem dX10_assign_1 : decode cX10_assign 1 = .ok (.iconst 0, 1) := by decide +kernel
theorem dX10_assign_2 : decode cX10_assign 2 = .ok (.invokevirtual 213, 3) := by decide +kernel
theorem dX10_assign_5 : decode cX10_assign 5 = .ok (.ifCond .ne 11, 3) := by decide +kernel
theorem dX10_assign_8 : decode cX10_assign 8 = .ok (.bipush (-100), 2) := by decide +kernel
theorem dX10_assign_10 : decode cX10_assign 10 = .ok (.aload_n 0, 1) := by decide +kernel
theorem dX10_assign_11 : decode cX10_assign 11 = .ok (.getfield 138, 3) := by decide +kernel
theorem dX10_assign_14 : decode cX10_assign 14 = .ok (.isub, 1) := by decide +kernel
theorem dX10_assign_15 : decode cX10_assign 15 = .ok (.ireturn, 1) := by decide +kernel
theorem dX10_assign_16 : decode cX10_assign 16 = .ok (.aload_n 0, 1) := by decide +kernel
theorem dX10_assign_17 : decode cX10_assign 17 = .ok (.invokevirtual 131, 3) := by decide +kernel
theorem dX10_assign_20 : decode cX10_assign 20 = .ok (.aload_n 0, 1) := by decide +kernel
theorem dX10_assign_21 : decode cX10_assign 21 = .ok (.invokevirtual 150, 3) := by decide +kernel
theorem dX10_assign_24 : decode cX10_assign 24 = .ok (.aload_n 0, 1) := by decide +kernel
theorem dX10_assign_25 : decode cX10_assign 25 = .ok (.iconst 1, 1) := by decide +kernel
theorem dX10_assign_26 : decode cX10_assign 26 = .ok (.invokevirtual 213, 3) := by decide +kernel
theorem dX10_assign_29 : decode cX10_assign 29 = .ok (.pop, 1) := by decide +kernel
theorem dX10_assign_30 : decode cX10_assign 30 = .ok (.aload_n 0, 1) := by decide +kernel
theorem dX10_assign_31 : decode cX10_assign 31 = .ok (.bipush 20, 2) := by decide +kernel
theorem dX10_assign_33 : decode cX10_assign 33 = .ok (.aload_n 0, 1) := by decide +kernel
theorem dX10_assign_34 : decode cX10_assign 34 = .ok (.getfield 28, 3) := by decide +kernel
theorem dX10_assign_37 : decode cX10_assign 37 = .ok (.iconst 0, 1) := by decide +kernel
theorem dX10_assign_38 : decode cX10_assign 38 = .ok (.caload, 1) := by decide +kernel
theorem dX10_assign_39 : decode cX10_assign 39 = .ok (.bipush 97, 2) := by decide +kernel
theorem dX10_assign_41 : decode cX10_assign 41 = .ok (.isub, 1) := by decide +kernel
theorem dX10_assign_42 : decode cX10_assign 42 = .ok (.invokevirtual 147, 3) := by decide +kernel
theorem dX10_assign_45 : decode cX10_assign 45 = .ok (.aload_n 0, 1) := by decide +kernel
theorem dX10_assign_46 : decode cX10_assign 46 = .ok (.getfield 7, 3) := by decide +kernel
theorem dX10_assign_49 : decode cX10_assign 49 = .ok (.bipush 44, 2) := by decide +kernel
theorem dX10_assign_51 : decode cX10_assign 51 = .ok (.iaload, 1) := by decide +kernel
theorem dX10_assign_52 : decode cX10_assign 52 = .ok (.ireturn, 1) := by decide +kernel
theorem dX10_undo_0 : decode cX10_undo 0 = .ok (.aload_n 0, 1) := by decide +kernel
theorem dX10_undo_1 : decode cX10_undo 1 = .ok (.getfield 51, 3) := by decide +kernel
theorem dX10_undo_4 : decode cX10_undo 4 = .ok (.ifCond .ne 6, 3) := by decide +kernel
theorem dX10_undo_7 : decode cX10_undo 7 = .ok (.bipush (-5), 2) := by decide +kernel
theorem dX10_undo_9 : decode cX10_undo 9 = .ok (.ireturn, 1) := by decide +kernel
theorem dX10_undo_10 : decode cX10_undo 10 = .ok (.aload_n 0, 1) := by decide +kernel
theorem dX10_undo_11 : decode cX10_undo 11 = .ok (.dup, 1) := by decide +kernel
theorem dX10_undo_12 : decode cX10_undo 12 = .ok (.getfield 51, 3) := by decide +kernel
theorem dX10_undo_15 : decode cX10_undo 15 = .ok (.iconst 1, 1) := by decide +kernel
theorem dX10_undo_16 : decode cX10_undo 16 = .ok (.isub, 1) := by decide +kernel
theorem dX10_undo_17 : decode cX10_undo 17 = .ok (.putfield 51, 3) := by decide +kernel
theorem dX10_undo_20 : decode cX10_undo 20 = .ok (.iconst 0, 1) := by decide +kernel
theorem dX10_undo_21 : decode cX10_undo 21 = .ok (.istore_n 1, 1) := by decide +kernel
theorem dX10_undo_22 : decode cX10_undo 22 = .ok (.iload_n 1, 1) := by decide +kernel
theorem dX10_undo_23 : decode cX10_undo 23 = .ok (.bipush 87, 2) := by decide +kernel
theorem dX10_undo_25 : decode cX10_undo 25 = .ok (.if_icmp .ge 29, 3) := by decide +kernel
theorem dX10_undo_28 : decode cX10_undo 28 = .ok (.aload_n 0, 1) := by decide +kernel
theorem dX10_undo_29 : decode cX10_undo 29 = .ok (.getfield 7, 3) := by decide +kernel
theorem dX10_undo_32 : decode cX10_undo 32 = .ok (.iload_n 1, 1) := by decide +kernel
theorem dX10_undo_33 : decode cX10_undo 33 = .ok (.aload_n 0, 1) := by decide +kernel
theorem dX10_undo_34 : decode cX10_undo 34 = .ok (.getfield 13, 3) := by decide +kernel
theorem dX10_undo_37 : decode cX10_undo 37 = .ok (.bipush 87, 2) := by decide +kernel
theorem dX10_undo_39 : decode cX10_undo 39 = .ok (.aload_n 0, 1) := by decide +kernel
theorem dX10_undo_40 : decode cX10_undo 40 = .ok (.getfield 51, 3) := by decide +kernel
theorem dX10_undo_43 : decode cX10_undo 43 = .ok (.imul, 1) := by decide +kernel
theorem dX10_undo_44 : decode cX10_undo 44 = .ok (.iload_n 1, 1) := by decide +kernel
theorem dX10_undo_45 : decode cX10_undo 45 = .ok (.iadd, 1) := by decide +kernel
theorem dX10_undo_46 : decode cX10_undo 46 = .ok (.iaload, 1) := by decide +kernel
theorem dX10_undo_47 : decode cX10_undo 47 = .ok (.iastore, 1) := by decide +kernel
theorem dX10_undo_48 : decode cX10_undo 48 = .ok (.iinc 1 1, 3) := by decide +kernel
theorem dX10_undo_51 : decode cX10_undo 51 = .ok (.goto (-29), 3) := by decide +kernel
theorem dX10_undo_54 : decode cX10_undo 54 = .ok (.aload_n 0, 1) := by decide +kernel
theorem dX10_undo_55 : decode cX10_undo 55 = .ok (.getfield 51, 3) := by decide +kernel
theorem dX10_undo_58 : decode cX10_undo 58 = .ok (.ireturn, 1) := by decide +kernel
theorem dX10_keep_0 : decode cX10_keep 0 = .ok (.iconst 0, 1) := by decide +kernel
theorem dX10_keep_1 : decode cX10_keep 1 = .ok (.istore_n 1, 1) := by decide +kernel
theorem dX10_keep_2 : decode cX10_keep 2 = .ok (.iload_n 1, 1) := by decide +kernel
theorem dX10_keep_3 : decode cX10_keep 3 = .ok (.bipush 87, 2) := by decide +kernel
theorem dX10_keep_5 : decode cX10_keep 5 = .ok (.if_icmp .ge 21, 3) := by decide +kernel
theorem dX10_keep_8 : decode cX10_keep 8 = .ok (.aload_n 0, 1) := by decide +kernel
theorem dX10_keep_9 : decode cX10_keep 9 = .ok (.getfield 16, 3) := by decide +kernel
theorem dX10_keep_12 : decode cX10_keep 12 = .ok (.iload_n 1, 1) := by decide +kernel
theorem dX10_keep_13 : decode cX10_keep 13 = .ok (.aload_n 0, 1) := by decide +kernel
theorem dX10_keep_14 : decode cX10_keep 14 = .ok (.getfield 7, 3) := by decide +kernel
theorem dX10_keep_17 : decode cX10_keep 17 = .ok (.iload_n 1, 1) := by decide +kernel
theorem dX10_keep_18 : decode cX10_keep 18 = .ok (.iaload, 1) := by decide +kernel
theorem dX10_keep_19 : decode cX10_keep 19 = .ok (.iastore, 1) := by decide +kernel
theorem dX10_keep_20 : decode cX10_keep 20 = .ok (.iinc 1 1, 3) := by decide +kernel
theorem dX10_keep_23 : decode cX10_keep 23 = .ok (.goto (-21), 3) := by decide +kernel
theorem dX10_keep_26 : decode cX10_keep 26 = .ok (.aload_n 0, 1) := by decide +kernel
theorem dX10_keep_27 : decode cX10_keep 27 = .ok (.iconst 1, 1) := by decide +kernel
theorem dX10_keep_28 : decode cX10_keep 28 = .ok (.putfield 216, 3) := by decide +kernel
theorem dX10_keep_31 : decode cX10_keep 31 = .ok (.aload_n 0, 1) := by decide +kernel
theorem dX10_keep_32 : decode cX10_keep 32 = .ok (.getfield 7, 3) := by decide +kernel
theorem dX10_keep_35 : decode cX10_keep 35 = .ok (.bipush 44, 2) := by decide +kernel
theorem dX10_keep_37 : decode cX10_keep 37 = .ok (.iaload, 1) := by decide +kernel
theorem dX10_keep_38 : decode cX10_keep 38 = .ok (.ireturn, 1) := by decide +kernel
theorem dX10_restore_0 : decode cX10_restore 0 = .ok (.aload_n 0, 1) := by decide +kernel
theorem dX10_restore_1 : decode cX10_restore 1 = .ok (.getfield 216, 3) := by decide +kernel
theorem dX10_restore_4 : decode cX10_restore 4 = .ok (.ifCond .ne 6, 3) := by decide +kernel
theorem dX10_restore_7 : decode cX10_restore 7 = .ok (.bipush (-5), 2) := by decide +kernel
theorem dX10_restore_9 : decode cX10_restore 9 = .ok (.ireturn, 1) := by decide +kernel
theorem dX10_restore_10 : decode cX10_restore 10 = .ok (.aload_n 0, 1) := by decide +kernel
theorem dX10_restore_11 : decode cX10_restore 11 = .ok (.invokevirtual 131, 3) := by decide +kernel
theorem dX10_restore_14 : decode cX10_restore 14 = .ok (.iconst 0, 1) := by decide +kernel
theorem dX10_restore_15 : decode cX10_restore 15 = .ok (.istore_n 1, 1) := by decide +kernel
theorem dX10_restore_16 : decode cX10_restore 16 = .ok (.iload_n 1, 1) := by decide +kernel
theorem dX10_restore_17 : decode cX10_restore 17 = .ok (.bipush 87, 2) := by decide +kernel
theorem dX10_restore_19 : decode cX10_restore 19 = .ok (.if_icmp .ge 21, 3) := by decide +kernel
theorem dX10_restore_22 : decode cX10_restore 22 = .ok (.aload_n 0, 1) := by decide +kernel
theorem dX10_restore_23 : decode cX10_restore 23 = .ok (.getfield 7, 3) := by decide +kernel
theorem dX10_restore_26 : decode cX10_restore 26 = .ok (.iload_n 1, 1) := by decide +kernel
theorem dX10_restore_27 : decode cX10_restore 27 = .ok (.aload_n 0, 1) := by decide +kernel
theorem dX10_restore_28 : decode cX10_restore 28 = .ok (.getfield 16, 3) := by decide +kernel
theorem dX10_restore_31 : decode cX10_restore 31 = .ok (.iload_n 1, 1) := by decide +kernel
theorem dX10_restore_32 : decode cX10_restore 32 = .ok (.iaload, 1) := by decide +kernel
theorem dX10_restore_33 : decode cX10_restore 33 = .ok (.iastore, 1) := by decide +kernel
theorem dX10_restore_34 : decode cX10_restore 34 = .ok (.iinc 1 1, 3) := by decide +kernel
theorem dX10_restore_37 : decode cX10_restore 37 = .ok (.goto (-21), 3) := by decide +kernel
theorem dX10_restore_40 : decode cX10_restore 40 = .ok (.aload_n 0, 1) := by decide +kernel
theorem dX10_restore_41 : decode cX10_restore 41 = .ok (.getfield 7, 3) := by decide +kernel
theorem dX10_restore_44 : decode cX10_restore 44 = .ok (.bipush 44, 2) := by decide +kernel
theorem dX10_restore_46 : decode cX10_restore 46 = .ok (.iaload, 1) := by decide +kernel
theorem dX10_restore_47 : decode cX10_restore 47 = .ok (.ireturn, 1) := by decide +kernel
theorem dX10_modulus_0 : decode cX10_modulus 0 = .ok (.iload_n 1, 1) := by decide +kernel
theorem dX10_modulus_1 : decode cX10_modulus 1 = .ok (.ifCond .ge 6, 3) := by decide +kernel
theorem dX10_modulus_4 : decode cX10_modulus 4 = .ok (.bipush (-2), 2) := by decide +kernel
theorem dX10_modulus_6 : decode cX10_modulus 6 = .ok (.ireturn, 1) := by decide +kernel
theorem dX10_modulus_7 : decode cX10_modulus 7 = .ok (.iload_n 1, 1) := by decide +kernel
theorem dX10_modulus_8 : decode cX10_modulus 8 = .ok (.aload_n 0, 1) := by decide +kernel
theorem dX10_modulus_9 : decode cX10_modulus 9 = .ok (.invokevirtual 153, 3) := by decide +kernel
theorem dX10_modulus_12 : decode cX10_modulus 12 = .ok (.if_icmp .gt 14, 3) := by decide +kernel
theorem dX10_modulus_15 : decode cX10_modulus 15 = .ok (.aload_n 0, 1) := by decide +kernel
theorem dX10_modulus_16 : decode cX10_modulus 16 = .ok (.getfield 7, 3) := by decide +kernel
theorem dX10_modulus_19 : decode cX10_modulus 19 = .ok (.iconst 1, 1) := by decide +kernel
theorem dX10_modulus_20 : decode cX10_modulus 20 = .ok (.iload_n 1, 1) := by decide +kernel
theorem dX10_modulus_21 : decode cX10_modulus 21 = .ok (.iadd, 1) := by decide +kernel
theorem dX10_modulus_22 : decode cX10_modulus 22 = .ok (.iaload, 1) := by decide +kernel
theorem dX10_modulus_23 : decode cX10_modulus 23 = .ok (.goto 5, 3) := by decide +kernel
theorem dX10_modulus_26 : decode cX10_modulus 26 = .ok (.bipush (-5), 2) := by decide +kernel
theorem dX10_modulus_28 : decode cX10_modulus 28 = .ok (.ireturn, 1) := by decide +kernel
theorem dX10_number_0 : decode cX10_number 0 = .ok (.iload_n 1, 1) := by decide +kernel
theorem dX10_number_1 : decode cX10_number 1 = .ok (.invokestatic 156, 3) := by decide +kernel
theorem dX10_number_4 : decode cX10_number 4 = .ok (.ifCond .eq 5, 3) := by decide +kernel
theorem dX10_number_7 : decode cX10_number 7 = .ok (.iconst (-1), 1) := by decide +kernel
theorem dX10_number_8 : decode cX10_number 8 = .ok (.ireturn, 1) := by decide +kernel
theorem dX10_number_9 : decode cX10_number 9 = .ok (.aload_n 0, 1) := by decide +kernel
theorem dX10_number_10 : decode cX10_number 10 = .ok (.iload_n 2, 1) := by decide +kernel
theorem dX10_number_11 : decode cX10_number 11 = .ok (.invokevirtual 159, 3) := by decide +kernel
theorem dX10_number_14 : decode cX10_number 14 = .ok (.ifCond .eq 8, 3) := by decide +kernel
theorem dX10_number_17 : decode cX10_number 17 = .ok (.bipush (-2), 2) := by decide +kernel
theorem dX10_number_19 : decode cX10_number 19 = .ok (.goto 17, 3) := by decide +kernel
theorem dX10_number_22 : decode cX10_number 22 = .ok (.aload_n 0, 1) := by decide +kernel
theorem dX10_number_23 : decode cX10_number 23 = .ok (.getfield 7, 3) := by decide +kernel
theorem dX10_number_26 : decode cX10_number 26 = .ok (.bipush 8, 2) := by decide +kernel
theorem dX10_number_28 : decode cX10_number 28 = .ok (.bipush 6, 2) := by decide +kernel
theorem dX10_number_30 : decode cX10_number 30 = .ok (.iload_n 1, 1) := by decide +kernel
theorem dX10_number_31 : decode cX10_number 31 = .ok (.imul, 1) := by decide +kernel
theorem dX10_number_32 : decode cX10_number 32 = .ok (.iadd, 1) := by decide +kernel
theorem dX10_number_33 : decode cX10_number 33 = .ok (.iload_n 2, 1) := by decide +kernel
theorem dX10_number_34 : decode cX10_number 34 = .ok (.iadd, 1) := by decide +kernel
theorem dX10_number_35 : decode cX10_number 35 = .ok (.iaload, 1) := by decide +kernel
theorem dX10_number_36 : decode cX10_number 36 = .ok (.ireturn, 1) := by decide +kernel
theorem dX10_degreeOfBranch_0 : decode cX10_degreeOfBranch 0 = .ok (.aload_n 0, 1) := by decide +kernel
theorem dX10_degreeOfBranch_1 : decode cX10_degreeOfBranch 1 = .ok (.iload_n 1, 1) := by decide +kernel
theorem dX10_degreeOfBranch_2 : decode cX10_degreeOfBranch 2 = .ok (.iconst 1, 1) := by decide +kernel
theorem dX10_degreeOfBranch_3 : decode cX10_degreeOfBranch 3 = .ok (.invokevirtual 106, 3) := by decide +kernel
theorem dX10_degreeOfBranch_6 : decode cX10_degreeOfBranch 6 = .ok (.aload_n 0, 1) := by decide +kernel
theorem dX10_degreeOfBranch_7 : decode cX10_degreeOfBranch 7 = .ok (.iconst 1, 1) := by decide +kernel
theorem dX10_degreeOfBranch_8 : decode cX10_degreeOfBranch 8 = .ok (.invokevirtual 70, 3) := by decide +kernel
theorem dX10_degreeOfBranch_11 : decode cX10_degreeOfBranch 11 = .ok (.ireturn, 1) := by decide +kernel
theorem dX10_branch_0 : decode cX10_branch 0 = .ok (.aload_n 0, 1) := by decide +kernel
theorem dX10_branch_1 : decode cX10_branch 1 = .ok (.iload_n 1, 1) := by decide +kernel
theorem dX10_branch_2 : decode cX10_branch 2 = .ok (.invokevirtual 162, 3) := by decide +kernel
theorem dX10_branch_5 : decode cX10_branch 5 = .ok (.ifCond .eq 5, 3) := by decide +kernel
theorem dX10_branch_8 : decode cX10_branch 8 = .ok (.iconst (-1), 1) := by decide +kernel
theorem dX10_branch_9 : decode cX10_branch 9 = .ok (.ireturn, 1) := by decide +kernel
theorem dX10_branch_10 : decode cX10_branch 10 = .ok (.iload_n 2, 1) := by decide +kernel
theorem dX10_branch_11 : decode cX10_branch 11 = .ok (.ifCond .ge 6, 3) := by decide +kernel
theorem dX10_branch_14 : decode cX10_branch 14 = .ok (.bipush (-2), 2) := by decide +kernel
theorem dX10_branch_16 : decode cX10_branch 16 = .ok (.ireturn, 1) := by decide +kernel
theorem dX10_branch_17 : decode cX10_branch 17 = .ok (.iload_n 2, 1) := by decide +kernel
theorem dX10_branch_18 : decode cX10_branch 18 = .ok (.aload_n 0, 1) := by decide +kernel
theorem dX10_branch_19 : decode cX10_branch 19 = .ok (.iload_n 1, 1) := by decide +kernel
theorem dX10_branch_20 : decode cX10_branch 20 = .ok (.invokevirtual 220, 3) := by decide +kernel
theorem dX10_branch_23 : decode cX10_branch 23 = .ok (.if_icmp .gt 20, 3) := by decide +kernel
theorem dX10_branch_26 : decode cX10_branch 26 = .ok (.aload_n 0, 1) := by decide +kernel
theorem dX10_branch_27 : decode cX10_branch 27 = .ok (.getfield 7, 3) := by decide +kernel
theorem dX10_branch_30 : decode cX10_branch 30 = .ok (.bipush 45, 2) := by decide +kernel
theorem dX10_branch_32 : decode cX10_branch 32 = .ok (.bipush 7, 2) := by decide +kernel
theorem dX10_branch_34 : decode cX10_branch 34 = .ok (.iload_n 1, 1) := by decide +kernel
theorem dX10_branch_35 : decode cX10_branch 35 = .ok (.imul, 1) := by decide +kernel
theorem dX10_branch_36 : decode cX10_branch 36 = .ok (.iadd, 1) := by decide +kernel
theorem dX10_branch_37 : decode cX10_branch 37 = .ok (.iload_n 2, 1) := by decide +kernel
theorem dX10_branch_38 : decode cX10_branch 38 = .ok (.iadd, 1) := by decide +kernel
theorem dX10_branch_39 : decode cX10_branch 39 = .ok (.iaload, 1) := by decide +kernel
theorem dX10_branch_40 : decode cX10_branch 40 = .ok (.goto 5, 3) := by decide +kernel
theorem dX10_branch_43 : decode cX10_branch 43 = .ok (.bipush (-5), 2) := by decide +kernel
theorem dX10_branch_45 : decode cX10_branch 45 = .ok (.ireturn, 1) := by decide +kernel
theorem dX10_seen_0 : decode cX10_seen 0 = .ok (.iload_n 1, 1) := by decide +kernel
theorem dX10_seen_1 : decode cX10_seen 1 = .ok (.invokestatic 156, 3) := by decide +kernel
theorem dX10_seen_4 : decode cX10_seen 4 = .ok (.ifCond .ne 11, 3) := by decide +kernel
theorem dX10_seen_7 : decode cX10_seen 7 = .ok (.aload_n 0, 1) := by decide +kernel
theorem dX10_seen_8 : decode cX10_seen 8 = .ok (.iload_n 2, 1) := by decide +kernel
theorem dX10_seen_9 : decode cX10_seen 9 = .ok (.invokevirtual 162, 3) := by decide +kernel
theorem dX10_seen_12 : decode cX10_seen 12 = .ok (.ifCond .eq 5, 3) := by decide +kernel
theorem dX10_seen_15 : decode cX10_seen 15 = .ok (.iconst (-1), 1) := by decide +kernel
theorem dX10_seen_16 : decode cX10_seen 16 = .ok (.ireturn, 1) := by decide +kernel
theorem dX10_seen_17 : decode cX10_seen 17 = .ok (.iload_n 3, 1) := by decide +kernel
theorem dX10_seen_18 : decode cX10_seen 18 = .ok (.iconst 0, 1) := by decide +kernel
theorem dX10_seen_19 : decode cX10_seen 19 = .ok (.aload_n 0, 1) := by decide +kernel
theorem dX10_seen_20 : decode cX10_seen 20 = .ok (.iload_n 2, 1) := by decide +kernel
theorem dX10_seen_21 : decode cX10_seen 21 = .ok (.invokevirtual 220, 3) := by decide +kernel
theorem dX10_seen_24 : decode cX10_seen 24 = .ok (.iconst 1, 1) := by decide +kernel
theorem dX10_seen_25 : decode cX10_seen 25 = .ok (.isub, 1) := by decide +kernel
theorem dX10_seen_26 : decode cX10_seen 26 = .ok (.invokestatic 47, 3) := by decide +kernel
theorem dX10_seen_29 : decode cX10_seen 29 = .ok (.ifCond .ne 6, 3) := by decide +kernel
theorem dX10_seen_32 : decode cX10_seen 32 = .ok (.bipush (-2), 2) := by decide +kernel
theorem dX10_seen_34 : decode cX10_seen 34 = .ok (.ireturn, 1) := by decide +kernel
theorem dX10_seen_35 : decode cX10_seen 35 = .ok (.aload_n 0, 1) := by decide +kernel
theorem dX10_seen_36 : decode cX10_seen 36 = .ok (.iload_n 1, 1) := by decide +kernel
theorem dX10_seen_37 : decode cX10_seen 37 = .ok (.iconst 2, 1) := by decide +kernel
theorem dX10_seen_38 : decode cX10_seen 38 = .ok (.invokevirtual 144, 3) := by decide +kernel
theorem dX10_seen_41 : decode cX10_seen 41 = .ok (.aload_n 0, 1) := by decide +kernel
theorem dX10_seen_42 : decode cX10_seen 42 = .ok (.iconst 2, 1) := by decide +kernel
theorem dX10_seen_43 : decode cX10_seen 43 = .ok (.iconst 1, 1) := by decide +kernel
theorem dX10_seen_44 : decode cX10_seen 44 = .ok (.iconst (-1), 1) := by decide +kernel
theorem dX10_seen_45 : decode cX10_seen 45 = .ok (.invokevirtual 81, 3) := by decide +kernel
theorem dX10_seen_48 : decode cX10_seen 48 = .ok (.aload_n 0, 1) := by decide +kernel
theorem dX10_seen_49 : decode cX10_seen 49 = .ok (.iconst 2, 1) := by decide +kernel
theorem dX10_seen_50 : decode cX10_seen 50 = .ok (.iload_n 3, 1) := by decide +kernel
theorem dX10_seen_51 : decode cX10_seen 51 = .ok (.invokevirtual 55, 3) := by decide +kernel
theorem dX10_seen_54 : decode cX10_seen 54 = .ok (.ireturn, 1) := by decide +kernel
theorem dX10_kind_0 : decode cX10_kind 0 = .ok (.iload_n 1, 1) := by decide +kernel
theorem dX10_kind_1 : decode cX10_kind 1 = .ok (.invokestatic 156, 3) := by decide +kernel
theorem dX10_kind_4 : decode cX10_kind 4 = .ok (.ifCond .ne 11, 3) := by decide +kernel
theorem dX10_kind_7 : decode cX10_kind 7 = .ok (.aload_n 0, 1) := by decide +kernel
theorem dX10_kind_8 : decode cX10_kind 8 = .ok (.iload_n 2, 1) := by decide +kernel
theorem dX10_kind_9 : decode cX10_kind 9 = .ok (.invokevirtual 162, 3) := by decide +kernel
theorem dX10_kind_12 : decode cX10_kind 12 = .ok (.ifCond .eq 5, 3) := by decide +kernel
theorem dX10_kind_15 : decode cX10_kind 15 = .ok (.iconst (-1), 1) := by decide +kernel
theorem dX10_kind_16 : decode cX10_kind 16 = .ok (.ireturn, 1) := by decide +kernel
theorem dX10_kind_17 : decode cX10_kind 17 = .ok (.aload_n 0, 1) := by decide +kernel
theorem dX10_kind_18 : decode cX10_kind 18 = .ok (.iload_n 1, 1) := by decide +kernel
theorem dX10_kind_19 : decode cX10_kind 19 = .ok (.iconst 2, 1) := by decide +kernel
theorem dX10_kind_20 : decode cX10_kind 20 = .ok (.invokevirtual 144, 3) := by decide +kernel
theorem dX10_kind_23 : decode cX10_kind 23 = .ok (.aload_n 0, 1) := by decide +kernel
theorem dX10_kind_24 : decode cX10_kind 24 = .ok (.iload_n 2, 1) := by decide +kernel
theorem dX10_kind_25 : decode cX10_kind 25 = .ok (.iconst 1, 1) := by decide +kernel
theorem dX10_kind_26 : decode cX10_kind 26 = .ok (.invokevirtual 106, 3) := by decide +kernel
theorem dX10_kind_29 : decode cX10_kind 29 = .ok (.aload_n 0, 1) := by decide +kernel
theorem dX10_kind_30 : decode cX10_kind 30 = .ok (.iconst 2, 1) := by decide +kernel
theorem dX10_kind_31 : decode cX10_kind 31 = .ok (.invokevirtual 125, 3) := by decide +kernel
theorem dX10_kind_34 : decode cX10_kind 34 = .ok (.ireturn, 1) := by decide +kernel
theorem dX10_unit_0 : decode cX10_unit 0 = .ok (.aload_n 0, 1) := by decide +kernel
theorem dX10_unit_1 : decode cX10_unit 1 = .ok (.iload_n 1, 1) := by decide +kernel
theorem dX10_unit_2 : decode cX10_unit 2 = .ok (.invokevirtual 162, 3) := by decide +kernel
theorem dX10_unit_5 : decode cX10_unit 5 = .ok (.ifCond .eq 5, 3) := by decide +kernel
theorem dX10_unit_8 : decode cX10_unit 8 = .ok (.iconst (-1), 1) := by decide +kernel
theorem dX10_unit_9 : decode cX10_unit 9 = .ok (.ireturn, 1) := by decide +kernel
theorem dX10_unit_10 : decode cX10_unit 10 = .ok (.aload_n 0, 1) := by decide +kernel
theorem dX10_unit_11 : decode cX10_unit 11 = .ok (.iload_n 2, 1) := by decide +kernel
theorem dX10_unit_12 : decode cX10_unit 12 = .ok (.invokevirtual 159, 3) := by decide +kernel
theorem dX10_unit_15 : decode cX10_unit 15 = .ok (.ifCond .eq 6, 3) := by decide +kernel
theorem dX10_unit_18 : decode cX10_unit 18 = .ok (.bipush (-2), 2) := by decide +kernel
theorem dX10_unit_20 : decode cX10_unit 20 = .ok (.ireturn, 1) := by decide +kernel
theorem dX10_unit_21 : decode cX10_unit 21 = .ok (.aload_n 0, 1) := by decide +kernel
theorem dX10_unit_22 : decode cX10_unit 22 = .ok (.iload_n 1, 1) := by decide +kernel
theorem dX10_unit_23 : decode cX10_unit 23 = .ok (.iconst 1, 1) := by decide +kernel
theorem dX10_unit_24 : decode cX10_unit 24 = .ok (.invokevirtual 106, 3) := by decide +kernel
theorem dX10_unit_27 : decode cX10_unit 27 = .ok (.aload_n 0, 1) := by decide +kernel
theorem dX10_unit_28 : decode cX10_unit 28 = .ok (.iconst 2, 1) := by decide +kernel
theorem dX10_unit_29 : decode cX10_unit 29 = .ok (.invokevirtual 128, 3) := by decide +kernel
theorem dX10_unit_32 : decode cX10_unit 32 = .ok (.aload_n 0, 1) := by decide +kernel
theorem dX10_unit_33 : decode cX10_unit 33 = .ok (.iconst 2, 1) := by decide +kernel
theorem dX10_unit_34 : decode cX10_unit 34 = .ok (.iload_n 2, 1) := by decide +kernel
theorem dX10_unit_35 : decode cX10_unit 35 = .ok (.invokevirtual 55, 3) := by decide +kernel
theorem dX10_unit_38 : decode cX10_unit 38 = .ok (.ireturn, 1) := by decide +kernel
theorem dX10_power_0 : decode cX10_power 0 = .ok (.iload_n 1, 1) := by decide +kernel
theorem dX10_power_1 : decode cX10_power 1 = .ok (.invokestatic 156, 3) := by decide +kernel
theorem dX10_power_4 : decode cX10_power 4 = .ok (.ifCond .eq 5, 3) := by decide +kernel
theorem dX10_power_7 : decode cX10_power 7 = .ok (.iconst (-1), 1) := by decide +kernel
theorem dX10_power_8 : decode cX10_power 8 = .ok (.ireturn, 1) := by decide +kernel
theorem dX10_power_9 : decode cX10_power 9 = .ok (.iload_n 2, 1) := by decide +kernel
theorem dX10_power_10 : decode cX10_power 10 = .ok (.iconst 0, 1) := by decide +kernel
theorem dX10_power_11 : decode cX10_power 11 = .ok (.ldc 223, 2) := by decide +kernel
theorem dX10_power_13 : decode cX10_power 13 = .ok (.invokestatic 47, 3) := by decide +kernel
theorem dX10_power_16 : decode cX10_power 16 = .ok (.ifCond .eq 11, 3) := by decide +kernel
theorem dX10_power_19 : decode cX10_power 19 = .ok (.aload_n 0, 1) := by decide +kernel
theorem dX10_power_20 : decode cX10_power 20 = .ok (.iload_n 3, 1) := by decide +kernel
theorem dX10_power_21 : decode cX10_power 21 = .ok (.invokevirtual 159, 3) := by decide +kernel
theorem dX10_power_24 : decode cX10_power 24 = .ok (.ifCond .eq 6, 3) := by decide +kernel
theorem dX10_power_27 : decode cX10_power 27 = .ok (.bipush (-2), 2) := by decide +kernel
theorem dX10_power_29 : decode cX10_power 29 = .ok (.ireturn, 1) := by decide +kernel
theorem dX10_power_30 : decode cX10_power 30 = .ok (.aload_n 0, 1) := by decide +kernel
theorem dX10_power_31 : decode cX10_power 31 = .ok (.iload_n 1, 1) := by decide +kernel
theorem dX10_power_32 : decode cX10_power 32 = .ok (.iconst 2, 1) := by decide +kernel
theorem dX10_power_33 : decode cX10_power 33 = .ok (.invokevirtual 144, 3) := by decide +kernel
theorem dX10_power_36 : decode cX10_power 36 = .ok (.aload_n 0, 1) := by decide +kernel
theorem dX10_power_37 : decode cX10_power 37 = .ok (.iconst 2, 1) := by decide +kernel
theorem dX10_power_38 : decode cX10_power 38 = .ok (.iload_n 2, 1) := by decide +kernel
theorem dX10_power_39 : decode cX10_power 39 = .ok (.iconst 0, 1) := by decide +kernel
theorem dX10_power_40 : decode cX10_power 40 = .ok (.iconst 2, 1) := by decide +kernel
theorem dX10_power_41 : decode cX10_power 41 = .ok (.invokevirtual 174, 3) := by decide +kernel
theorem dX10_power_44 : decode cX10_power 44 = .ok (.aload_n 0, 1) := by decide +kernel
theorem dX10_power_45 : decode cX10_power 45 = .ok (.iconst 2, 1) := by decide +kernel
theorem dX10_power_46 : decode cX10_power 46 = .ok (.iload_n 3, 1) := by decide +kernel
theorem dX10_power_47 : decode cX10_power 47 = .ok (.invokevirtual 55, 3) := by decide +kernel
theorem dX10_power_50 : decode cX10_power 50 = .ok (.ireturn, 1) := by decide +kernel
theorem dX10_findsLeast_0 : decode cX10_findsLeast 0 = .ok (.aload_n 0, 1) := by decide +kernel
theorem dX10_findsLeast_1 : decode cX10_findsLeast 1 = .ok (.iconst 0, 1) := by decide +kernel
theorem dX10_findsLeast_2 : decode cX10_findsLeast 2 = .ok (.invokevirtual 70, 3) := by decide +kernel
theorem dX10_findsLeast_5 : decode cX10_findsLeast 5 = .ok (.istore_n 1, 1) := by decide +kernel
theorem dX10_findsLeast_6 : decode cX10_findsLeast 6 = .ok (.aload_n 0, 1) := by decide +kernel
theorem dX10_findsLeast_7 : decode cX10_findsLeast 7 = .ok (.getfield 7, 3) := by decide +kernel
theorem dX10_findsLeast_10 : decode cX10_findsLeast 10 = .ok (.iconst 0, 1) := by decide +kernel
theorem dX10_findsLeast_11 : decode cX10_findsLeast 11 = .ok (.iaload, 1) := by decide +kernel
theorem dX10_findsLeast_12 : decode cX10_findsLeast 12 = .ok (.istore_n 2, 1) := by decide +kernel
theorem dX10_findsLeast_13 : decode cX10_findsLeast 13 = .ok (.aload_n 0, 1) := by decide +kernel
theorem dX10_findsLeast_14 : decode cX10_findsLeast 14 = .ok (.iconst 4, 1) := by decide +kernel
theorem dX10_findsLeast_15 : decode cX10_findsLeast 15 = .ok (.iconst 1, 1) := by decide +kernel
theorem dX10_findsLeast_16 : decode cX10_findsLeast 16 = .ok (.invokevirtual 87, 3) := by decide +kernel
theorem dX10_findsLeast_19 : decode cX10_findsLeast 19 = .ok (.iconst 0, 1) := by decide +kernel
theorem dX10_findsLeast_20 : decode cX10_findsLeast 20 = .ok (.istore_n 3, 1) := by decide +kernel
theorem dX10_findsLeast_21 : decode cX10_findsLeast 21 = .ok (.iload_n 3, 1) := by decide +kernel
theorem dX10_findsLeast_22 : decode cX10_findsLeast 22 = .ok (.iload_n 1, 1) := by decide +kernel
theorem dX10_findsLeast_23 : decode cX10_findsLeast 23 = .ok (.if_icmp .gt 164, 3) := by decide +kernel
theorem dX10_findsLeast_26 : decode cX10_findsLeast 26 = .ok (.bipush 34, 2) := by decide +kernel
theorem dX10_findsLeast_28 : decode cX10_findsLeast 28 = .ok (.iconst 2, 1) := by decide +kernel
theorem dX10_findsLeast_29 : decode cX10_findsLeast 29 = .ok (.iload_n 3, 1) := by decide +kernel
theorem dX10_findsLeast_30 : decode cX10_findsLeast 30 = .ok (.imul, 1) := by decide +kernel
theorem dX10_findsLeast_31 : decode cX10_findsLeast 31 = .ok (.iadd, 1) := by decide +kernel
theorem dX10_findsLeast_32 : decode cX10_findsLeast 32 = .ok (.istore 4, 2) := by decide +kernel
theorem dX10_findsLeast_34 : decode cX10_findsLeast 34 = .ok (.aload_n 0, 1) := by decide +kernel
theorem dX10_findsLeast_35 : decode cX10_findsLeast 35 = .ok (.iconst 4, 1) := by decide +kernel
theorem dX10_findsLeast_36 : decode cX10_findsLeast 36 = .ok (.iload 4, 2) := by decide +kernel
theorem dX10_findsLeast_38 : decode cX10_findsLeast 38 = .ok (.invokevirtual 77, 3) := by decide +kernel
theorem dX10_findsLeast_41 : decode cX10_findsLeast 41 = .ok (.aload_n 0, 1) := by decide +kernel
theorem dX10_findsLeast_42 : decode cX10_findsLeast 42 = .ok (.iload 4, 2) := by decide +kernel
theorem dX10_findsLeast_44 : decode cX10_findsLeast 44 = .ok (.iconst 1, 1) := by decide +kernel
theorem dX10_findsLeast_45 : decode cX10_findsLeast 45 = .ok (.iadd, 1) := by decide +kernel
theorem dX10_findsLeast_46 : decode cX10_findsLeast 46 = .ok (.invokevirtual 63, 3) := by decide +kernel
theorem dX10_findsLeast_49 : decode cX10_findsLeast 49 = .ok (.aload_n 0, 1) := by decide +kernel
theorem dX10_findsLeast_50 : decode cX10_findsLeast 50 = .ok (.iload 4, 2) := by decide +kernel
theorem dX10_findsLeast_52 : decode cX10_findsLeast 52 = .ok (.iconst 1, 1) := by decide +kernel
theorem dX10_findsLeast_53 : decode cX10_findsLeast 53 = .ok (.iadd, 1) := by decide +kernel
theorem dX10_findsLeast_54 : decode cX10_findsLeast 54 = .ok (.iload_n 3, 1) := by decide +kernel
theorem dX10_findsLeast_55 : decode cX10_findsLeast 55 = .ok (.iconst 1, 1) := by decide +kernel
theorem dX10_findsLeast_56 : decode cX10_findsLeast 56 = .ok (.invokevirtual 59, 3) := by decide +kernel
theorem dX10_findsLeast_59 : decode cX10_findsLeast 59 = .ok (.iconst 0, 1) := by decide +kernel
theorem dX10_findsLeast_60 : decode cX10_findsLeast 60 = .ok (.istore 5, 2) := by decide +kernel
theorem dX10_findsLeast_62 : decode cX10_findsLeast 62 = .ok (.iload 5, 2) := by decide +kernel
theorem dX10_findsLeast_64 : decode cX10_findsLeast 64 = .ok (.iload_n 3, 1) := by decide +kernel
theorem dX10_findsLeast_65 : decode cX10_findsLeast 65 = .ok (.if_icmp .ge 83, 3) := by decide +kernel
theorem dX10_findsLeast_68 : decode cX10_findsLeast 68 = .ok (.bipush 34, 2) := by decide +kernel
theorem dX10_findsLeast_70 : decode cX10_findsLeast 70 = .ok (.iconst 2, 1) := by decide +kernel
theorem dX10_findsLeast_71 : decode cX10_findsLeast 71 = .ok (.iload 5, 2) := by decide +kernel
theorem dX10_findsLeast_73 : decode cX10_findsLeast 73 = .ok (.imul, 1) := by decide +kernel
theorem dX10_findsLeast_74 : decode cX10_findsLeast 74 = .ok (.iadd, 1) := by decide +kernel
theorem dX10_findsLeast_75 : decode cX10_findsLeast 75 = .ok (.istore 6, 2) := by decide +kernel
theorem dX10_findsLeast_77 : decode cX10_findsLeast 77 = .ok (.aload_n 0, 1) := by decide +kernel
theorem dX10_findsLeast_78 : decode cX10_findsLeast 78 = .ok (.iload 6, 2) := by decide +kernel
theorem dX10_findsLeast_80 : decode cX10_findsLeast 80 = .ok (.invokevirtual 70, 3) := by decide +kernel
theorem dX10_findsLeast_83 : decode cX10_findsLeast 83 = .ok (.istore 7, 2) := by decide +kernel
theorem dX10_findsLeast_85 : decode cX10_findsLeast 85 = .ok (.aload_n 0, 1) := by decide +kernel
theorem dX10_findsLeast_86 : decode cX10_findsLeast 86 = .ok (.iload 4, 2) := by decide +kernel
theorem dX10_findsLeast_88 : decode cX10_findsLeast 88 = .ok (.iload 7, 2) := by decide +kernel
theorem dX10_findsLeast_90 : decode cX10_findsLeast 90 = .ok (.invokevirtual 55, 3) := by decide +kernel
theorem dX10_findsLeast_93 : decode cX10_findsLeast 93 = .ok (.aload_n 0, 1) := by decide +kernel
theorem dX10_findsLeast_94 : decode cX10_findsLeast 94 = .ok (.aload_n 0, 1) := by decide +kernel
theorem dX10_findsLeast_95 : decode cX10_findsLeast 95 = .ok (.iload 6, 2) := by decide +kernel
theorem dX10_findsLeast_97 : decode cX10_findsLeast 97 = .ok (.iload 7, 2) := by decide +kernel
theorem dX10_findsLeast_99 : decode cX10_findsLeast 99 = .ok (.invokevirtual 55, 3) := by decide +kernel
theorem dX10_findsLeast_102 : decode cX10_findsLeast 102 = .ok (.invokevirtual 74, 3) := by decide +kernel
theorem dX10_findsLeast_105 : decode cX10_findsLeast 105 = .ok (.imul, 1) := by decide +kernel
theorem dX10_findsLeast_106 : decode cX10_findsLeast 106 = .ok (.iload_n 2, 1) := by decide +kernel
theorem dX10_findsLeast_107 : decode cX10_findsLeast 107 = .ok (.irem, 1) := by decide +kernel
theorem dX10_findsLeast_108 : decode cX10_findsLeast 108 = .ok (.istore 8, 2) := by decide +kernel
theorem dX10_findsLeast_110 : decode cX10_findsLeast 110 = .ok (.aload_n 0, 1) := by decide +kernel
theorem dX10_findsLeast_111 : decode cX10_findsLeast 111 = .ok (.iload 6, 2) := by decide +kernel
theorem dX10_findsLeast_113 : decode cX10_findsLeast 113 = .ok (.iload 4, 2) := by decide +kernel
theorem dX10_findsLeast_115 : decode cX10_findsLeast 115 = .ok (.iload_n 2, 1) := by decide +kernel
theorem dX10_findsLeast_116 : decode cX10_findsLeast 116 = .ok (.iload 8, 2) := by decide +kernel
theorem dX10_findsLeast_118 : decode cX10_findsLeast 118 = .ok (.isub, 1) := by decide +kernel
theorem dX10_findsLeast_119 : decode cX10_findsLeast 119 = .ok (.iload_n 2, 1) := by decide +kernel
theorem dX10_findsLeast_120 : decode cX10_findsLeast 120 = .ok (.irem, 1) := by decide +kernel
theorem dX10_findsLeast_121 : decode cX10_findsLeast 121 = .ok (.invokevirtual 93, 3) := by decide +kernel
theorem dX10_findsLeast_124 : decode cX10_findsLeast 124 = .ok (.aload_n 0, 1) := by decide +kernel
theorem dX10_findsLeast_125 : decode cX10_findsLeast 125 = .ok (.iload 6, 2) := by decide +kernel
theorem dX10_findsLeast_127 : decode cX10_findsLeast 127 = .ok (.iconst 1, 1) := by decide +kernel
theorem dX10_findsLeast_128 : decode cX10_findsLeast 128 = .ok (.iadd, 1) := by decide +kernel
theorem dX10_findsLeast_129 : decode cX10_findsLeast 129 = .ok (.iload 4, 2) := by decide +kernel
theorem dX10_findsLeast_131 : decode cX10_findsLeast 131 = .ok (.iconst 1, 1) := by decide +kernel
theorem dX10_findsLeast_132 : decode cX10_findsLeast 132 = .ok (.iadd, 1) := by decide +kernel
theorem dX10_findsLeast_133 : decode cX10_findsLeast 133 = .ok (.iload_n 2, 1) := by decide +kernel
theorem dX10_findsLeast_134 : decode cX10_findsLeast 134 = .ok (.iload 8, 2) := by decide +kernel
theorem dX10_findsLeast_136 : decode cX10_findsLeast 136 = .ok (.isub, 1) := by decide +kernel
theorem dX10_findsLeast_137 : decode cX10_findsLeast 137 = .ok (.iload_n 2, 1) := by decide +kernel
theorem dX10_findsLeast_138 : decode cX10_findsLeast 138 = .ok (.irem, 1) := by decide +kernel
theorem dX10_findsLeast_139 : decode cX10_findsLeast 139 = .ok (.invokevirtual 93, 3) := by decide +kernel
theorem dX10_findsLeast_142 : decode cX10_findsLeast 142 = .ok (.iinc 5 1, 3) := by decide +kernel
theorem dX10_findsLeast_145 : decode cX10_findsLeast 145 = .ok (.goto (-83), 3) := by decide +kernel
theorem dX10_findsLeast_148 : decode cX10_findsLeast 148 = .ok (.aload_n 0, 1) := by decide +kernel
theorem dX10_findsLeast_149 : decode cX10_findsLeast 149 = .ok (.iload 4, 2) := by decide +kernel
theorem dX10_findsLeast_151 : decode cX10_findsLeast 151 = .ok (.invokevirtual 70, 3) := by decide +kernel
theorem dX10_findsLeast_154 : decode cX10_findsLeast 154 = .ok (.ifCond .ge 13, 3) := by decide +kernel
theorem dX10_findsLeast_157 : decode cX10_findsLeast 157 = .ok (.aload_n 0, 1) := by decide +kernel
theorem dX10_findsLeast_158 : decode cX10_findsLeast 158 = .ok (.iload 4, 2) := by decide +kernel
theorem dX10_findsLeast_160 : decode cX10_findsLeast 160 = .ok (.iconst 1, 1) := by decide +kernel
theorem dX10_findsLeast_161 : decode cX10_findsLeast 161 = .ok (.iadd, 1) := by decide +kernel
theorem dX10_findsLeast_162 : decode cX10_findsLeast 162 = .ok (.iconst 3, 1) := by decide +kernel
theorem dX10_findsLeast_163 : decode cX10_findsLeast 163 = .ok (.invokevirtual 77, 3) := by decide +kernel
theorem dX10_findsLeast_166 : decode cX10_findsLeast 166 = .ok (.return_, 1) := by decide +kernel
theorem dX10_findsLeast_167 : decode cX10_findsLeast 167 = .ok (.aload_n 0, 1) := by decide +kernel
theorem dX10_findsLeast_168 : decode cX10_findsLeast 168 = .ok (.iconst 4, 1) := by decide +kernel
theorem dX10_findsLeast_169 : decode cX10_findsLeast 169 = .ok (.iconst 2, 1) := by decide +kernel
theorem dX10_findsLeast_170 : decode cX10_findsLeast 170 = .ok (.iconst 4, 1) := by decide +kernel
theorem dX10_findsLeast_171 : decode cX10_findsLeast 171 = .ok (.invokevirtual 90, 3) := by decide +kernel
theorem dX10_findsLeast_174 : decode cX10_findsLeast 174 = .ok (.aload_n 0, 1) := by decide +kernel
theorem dX10_findsLeast_175 : decode cX10_findsLeast 175 = .ok (.iconst 4, 1) := by decide +kernel
theorem dX10_findsLeast_176 : decode cX10_findsLeast 176 = .ok (.iconst 0, 1) := by decide +kernel
theorem dX10_findsLeast_177 : decode cX10_findsLeast 177 = .ok (.iconst (-1), 1) := by decide +kernel
theorem dX10_findsLeast_178 : decode cX10_findsLeast 178 = .ok (.invokevirtual 81, 3) := by decide +kernel
theorem dX10_findsLeast_181 : decode cX10_findsLeast 181 = .ok (.iinc 3 1, 3) := by decide +kernel
theorem dX10_findsLeast_184 : decode cX10_findsLeast 184 = .ok (.goto (-163), 3) := by decide +kernel
theorem dX10_findsLeast_187 : decode cX10_findsLeast 187 = .ok (.return_, 1) := by decide +kernel
theorem dX10_leastPolynomial_0 : decode cX10_leastPolynomial 0 = .ok (.iload_n 1, 1) := by decide +kernel
theorem dX10_leastPolynomial_1 : decode cX10_leastPolynomial 1 = .ok (.invokestatic 156, 3) := by decide +kernel
theorem dX10_leastPolynomial_4 : decode cX10_leastPolynomial 4 = .ok (.ifCond .eq 5, 3) := by decide +kernel
theorem dX10_leastPolynomial_7 : decode cX10_leastPolynomial 7 = .ok (.iconst (-1), 1) := by decide +kernel
theorem dX10_leastPolynomial_8 : decode cX10_leastPolynomial 8 = .ok (.ireturn, 1) := by decide +kernel
theorem dX10_leastPolynomial_9 : decode cX10_leastPolynomial 9 = .ok (.iload_n 2, 1) := by decide +kernel
theorem dX10_leastPolynomial_10 : decode cX10_leastPolynomial 10 = .ok (.ifCond .ge 6, 3) := by decide +kernel
theorem dX10_leastPolynomial_13 : decode cX10_leastPolynomial 13 = .ok (.bipush (-2), 2) := by decide +kernel
theorem dX10_leastPolynomial_15 : decode cX10_leastPolynomial 15 = .ok (.ireturn, 1) := by decide +kernel
theorem dX10_leastPolynomial_16 : decode cX10_leastPolynomial 16 = .ok (.aload_n 0, 1) := by decide +kernel
theorem dX10_leastPolynomial_17 : decode cX10_leastPolynomial 17 = .ok (.invokevirtual 150, 3) := by decide +kernel
theorem dX10_leastPolynomial_20 : decode cX10_leastPolynomial 20 = .ok (.aload_n 0, 1) := by decide +kernel
theorem dX10_leastPolynomial_21 : decode cX10_leastPolynomial 21 = .ok (.iload_n 1, 1) := by decide +kernel
theorem dX10_leastPolynomial_22 : decode cX10_leastPolynomial 22 = .ok (.iconst 2, 1) := by decide +kernel
theorem dX10_leastPolynomial_23 : decode cX10_leastPolynomial 23 = .ok (.invokevirtual 144, 3) := by decide +kernel
theorem dX10_leastPolynomial_26 : decode cX10_leastPolynomial 26 = .ok (.aload_n 0, 1) := by decide +kernel
theorem dX10_leastPolynomial_27 : decode cX10_leastPolynomial 27 = .ok (.invokevirtual 224, 3) := by decide +kernel
theorem dX10_leastPolynomial_30 : decode cX10_leastPolynomial 30 = .ok (.iload_n 2, 1) := by decide +kernel
theorem dX10_leastPolynomial_31 : decode cX10_leastPolynomial 31 = .ok (.aload_n 0, 1) := by decide +kernel
theorem dX10_leastPolynomial_32 : decode cX10_leastPolynomial 32 = .ok (.iconst 3, 1) := by decide +kernel
theorem dX10_leastPolynomial_33 : decode cX10_leastPolynomial 33 = .ok (.invokevirtual 70, 3) := by decide +kernel
theorem dX10_leastPolynomial_36 : decode cX10_leastPolynomial 36 = .ok (.if_icmp .gt 12, 3) := by decide +kernel
theorem dX10_leastPolynomial_39 : decode cX10_leastPolynomial 39 = .ok (.aload_n 0, 1) := by decide +kernel
theorem dX10_leastPolynomial_40 : decode cX10_leastPolynomial 40 = .ok (.iconst 3, 1) := by decide +kernel
theorem dX10_leastPolynomial_41 : decode cX10_leastPolynomial 41 = .ok (.iload_n 2, 1) := by decide +kernel
theorem dX10_leastPolynomial_42 : decode cX10_leastPolynomial 42 = .ok (.invokevirtual 55, 3) := by decide +kernel
theorem dX10_leastPolynomial_45 : decode cX10_leastPolynomial 45 = .ok (.goto 5, 3) := by decide +kernel
theorem dX10_leastPolynomial_48 : decode cX10_leastPolynomial 48 = .ok (.bipush (-5), 2) := by decide +kernel
theorem dX10_leastPolynomial_50 : decode cX10_leastPolynomial 50 = .ok (.ireturn, 1) := by decide +kernel
theorem dX10_trace_0 : decode cX10_trace 0 = .ok (.iload_n 1, 1) := by decide +kernel
theorem dX10_trace_1 : decode cX10_trace 1 = .ok (.invokestatic 156, 3) := by decide +kernel
theorem dX10_trace_4 : decode cX10_trace 4 = .ok (.ifCond .eq 5, 3) := by decide +kernel
theorem dX10_trace_7 : decode cX10_trace 7 = .ok (.iconst (-1), 1) := by decide +kernel
theorem dX10_trace_8 : decode cX10_trace 8 = .ok (.ireturn, 1) := by decide +kernel
theorem dX10_trace_9 : decode cX10_trace 9 = .ok (.aload_n 0, 1) := by decide +kernel
theorem dX10_trace_10 : decode cX10_trace 10 = .ok (.invokevirtual 150, 3) := by decide +kernel
theorem dX10_trace_13 : decode cX10_trace 13 = .ok (.aload_n 0, 1) := by decide +kernel
theorem dX10_trace_14 : decode cX10_trace 14 = .ok (.iload_n 1, 1) := by decide +kernel
theorem dX10_trace_15 : decode cX10_trace 15 = .ok (.iconst 2, 1) := by decide +kernel
theorem dX10_trace_16 : decode cX10_trace 16 = .ok (.invokevirtual 144, 3) := by decide +kernel
theorem dX10_trace_19 : decode cX10_trace 19 = .ok (.aload_n 0, 1) := by decide +kernel
theorem dX10_trace_20 : decode cX10_trace 20 = .ok (.iconst 3, 1) := by decide +kernel
theorem dX10_trace_21 : decode cX10_trace 21 = .ok (.invokevirtual 63, 3) := by decide +kernel
theorem dX10_trace_24 : decode cX10_trace 24 = .ok (.aload_n 0, 1) := by decide +kernel
theorem dX10_trace_25 : decode cX10_trace 25 = .ok (.iconst 3, 1) := by decide +kernel
theorem dX10_trace_26 : decode cX10_trace 26 = .ok (.iconst 1, 1) := by decide +kernel
theorem dX10_trace_27 : decode cX10_trace 27 = .ok (.iconst 1, 1) := by decide +kernel
theorem dX10_trace_28 : decode cX10_trace 28 = .ok (.invokevirtual 59, 3) := by decide +kernel
theorem dX10_trace_31 : decode cX10_trace 31 = .ok (.iconst 0, 1) := by decide +kernel
theorem dX10_trace_32 : decode cX10_trace 32 = .ok (.istore_n 2, 1) := by decide +kernel
theorem dX10_trace_33 : decode cX10_trace 33 = .ok (.iconst 0, 1) := by decide +kernel
theorem dX10_trace_34 : decode cX10_trace 34 = .ok (.istore_n 3, 1) := by decide +kernel
theorem dX10_trace_35 : decode cX10_trace 35 = .ok (.iload_n 3, 1) := by decide +kernel
theorem dX10_trace_36 : decode cX10_trace 36 = .ok (.aload_n 0, 1) := by decide +kernel
theorem dX10_trace_37 : decode cX10_trace 37 = .ok (.iconst 0, 1) := by decide +kernel
theorem dX10_trace_38 : decode cX10_trace 38 = .ok (.invokevirtual 70, 3) := by decide +kernel
theorem dX10_trace_41 : decode cX10_trace 41 = .ok (.if_icmp .ge 32, 3) := by decide +kernel
theorem dX10_trace_44 : decode cX10_trace 44 = .ok (.iload_n 2, 1) := by decide +kernel
theorem dX10_trace_45 : decode cX10_trace 45 = .ok (.aload_n 0, 1) := by decide +kernel
theorem dX10_trace_46 : decode cX10_trace 46 = .ok (.iconst 2, 1) := by decide +kernel
theorem dX10_trace_47 : decode cX10_trace 47 = .ok (.iload_n 3, 1) := by decide +kernel
theorem dX10_trace_48 : decode cX10_trace 48 = .ok (.invokevirtual 55, 3) := by decide +kernel
theorem dX10_trace_51 : decode cX10_trace 51 = .ok (.iadd, 1) := by decide +kernel
theorem dX10_trace_52 : decode cX10_trace 52 = .ok (.istore_n 2, 1) := by decide +kernel
theorem dX10_trace_53 : decode cX10_trace 53 = .ok (.aload_n 0, 1) := by decide +kernel
theorem dX10_trace_54 : decode cX10_trace 54 = .ok (.iconst 2, 1) := by decide +kernel
theorem dX10_trace_55 : decode cX10_trace 55 = .ok (.iconst 3, 1) := by decide +kernel
theorem dX10_trace_56 : decode cX10_trace 56 = .ok (.iconst 2, 1) := by decide +kernel
theorem dX10_trace_57 : decode cX10_trace 57 = .ok (.invokevirtual 90, 3) := by decide +kernel
theorem dX10_trace_60 : decode cX10_trace 60 = .ok (.aload_n 0, 1) := by decide +kernel
theorem dX10_trace_61 : decode cX10_trace 61 = .ok (.iconst 2, 1) := by decide +kernel
theorem dX10_trace_62 : decode cX10_trace 62 = .ok (.iconst 0, 1) := by decide +kernel
theorem dX10_trace_63 : decode cX10_trace 63 = .ok (.iconst (-1), 1) := by decide +kernel
theorem dX10_trace_64 : decode cX10_trace 64 = .ok (.invokevirtual 81, 3) := by decide +kernel
theorem dX10_trace_67 : decode cX10_trace 67 = .ok (.iinc 3 1, 3) := by decide +kernel
theorem dX10_trace_70 : decode cX10_trace 70 = .ok (.goto (-35), 3) := by decide +kernel
theorem dX10_trace_73 : decode cX10_trace 73 = .ok (.iload_n 2, 1) := by decide +kernel
theorem dX10_trace_74 : decode cX10_trace 74 = .ok (.aload_n 0, 1) := by decide +kernel
theorem dX10_trace_75 : decode cX10_trace 75 = .ok (.getfield 7, 3) := by decide +kernel
theorem dX10_trace_78 : decode cX10_trace 78 = .ok (.iconst 0, 1) := by decide +kernel
theorem dX10_trace_79 : decode cX10_trace 79 = .ok (.iaload, 1) := by decide +kernel
theorem dX10_trace_80 : decode cX10_trace 80 = .ok (.irem, 1) := by decide +kernel
theorem dX10_trace_81 : decode cX10_trace 81 = .ok (.ireturn, 1) := by decide +kernel
theorem dX10_isOne_0 : decode cX10_isOne 0 = .ok (.aload_n 0, 1) := by decide +kernel
theorem dX10_isOne_1 : decode cX10_isOne 1 = .ok (.iconst 2, 1) := by decide +kernel
theorem dX10_isOne_2 : decode cX10_isOne 2 = .ok (.iload_n 1, 1) := by decide +kernel
theorem dX10_isOne_3 : decode cX10_isOne 3 = .ok (.iconst 0, 1) := by decide +kernel
theorem dX10_isOne_4 : decode cX10_isOne 4 = .ok (.iconst 5, 1) := by decide +kernel
theorem dX10_isOne_5 : decode cX10_isOne 5 = .ok (.invokevirtual 174, 3) := by decide +kernel
theorem dX10_isOne_8 : decode cX10_isOne 8 = .ok (.aload_n 0, 1) := by decide +kernel
theorem dX10_isOne_9 : decode cX10_isOne 9 = .ok (.iconst 5, 1) := by decide +kernel
theorem dX10_isOne_10 : decode cX10_isOne 10 = .ok (.invokevirtual 70, 3) := by decide +kernel
theorem dX10_isOne_13 : decode cX10_isOne 13 = .ok (.ifCond .ne 17, 3) := by decide +kernel
theorem dX10_isOne_16 : decode cX10_isOne 16 = .ok (.aload_n 0, 1) := by decide +kernel
theorem dX10_isOne_17 : decode cX10_isOne 17 = .ok (.iconst 5, 1) := by decide +kernel
theorem dX10_isOne_18 : decode cX10_isOne 18 = .ok (.iconst 0, 1) := by decide +kernel
theorem dX10_isOne_19 : decode cX10_isOne 19 = .ok (.invokevirtual 55, 3) := by decide +kernel
theorem dX10_isOne_22 : decode cX10_isOne 22 = .ok (.iconst 1, 1) := by decide +kernel
theorem dX10_isOne_23 : decode cX10_isOne 23 = .ok (.if_icmp .ne 7, 3) := by decide +kernel
theorem dX10_isOne_26 : decode cX10_isOne 26 = .ok (.iconst 1, 1) := by decide +kernel
theorem dX10_isOne_27 : decode cX10_isOne 27 = .ok (.goto 4, 3) := by decide +kernel
theorem dX10_isOne_30 : decode cX10_isOne 30 = .ok (.iconst 0, 1) := by decide +kernel
theorem dX10_isOne_31 : decode cX10_isOne 31 = .ok (.ireturn, 1) := by decide +kernel
theorem dX10_divisor_0 : decode cX10_divisor 0 = .ok (.iload_n 0, 1) := by decide +kernel
theorem dX10_divisor_1 : decode cX10_divisor 1 = .ok (.istore_n 2, 1) := by decide +kernel
theorem dX10_divisor_2 : decode cX10_divisor 2 = .ok (.iload_n 1, 1) := by decide +kernel
theorem dX10_divisor_3 : decode cX10_divisor 3 = .ok (.istore_n 3, 1) := by decide +kernel
theorem dX10_divisor_4 : decode cX10_divisor 4 = .ok (.iload_n 3, 1) := by decide +kernel
theorem dX10_divisor_5 : decode cX10_divisor 5 = .ok (.ifCond .le 16, 3) := by decide +kernel
theorem dX10_divisor_8 : decode cX10_divisor 8 = .ok (.iload_n 2, 1) := by decide +kernel
theorem dX10_divisor_9 : decode cX10_divisor 9 = .ok (.iload_n 3, 1) := by decide +kernel
theorem dX10_divisor_10 : decode cX10_divisor 10 = .ok (.irem, 1) := by decide +kernel
theorem dX10_divisor_11 : decode cX10_divisor 11 = .ok (.istore 4, 2) := by decide +kernel
theorem dX10_divisor_13 : decode cX10_divisor 13 = .ok (.iload_n 3, 1) := by decide +kernel
theorem dX10_divisor_14 : decode cX10_divisor 14 = .ok (.istore_n 2, 1) := by decide +kernel
theorem dX10_divisor_15 : decode cX10_divisor 15 = .ok (.iload 4, 2) := by decide +kernel
theorem dX10_divisor_17 : decode cX10_divisor 17 = .ok (.istore_n 3, 1) := by decide +kernel
theorem dX10_divisor_18 : decode cX10_divisor 18 = .ok (.goto (-14), 3) := by decide +kernel
theorem dX10_divisor_21 : decode cX10_divisor 21 = .ok (.iload_n 2, 1) := by decide +kernel
theorem dX10_divisor_22 : decode cX10_divisor 22 = .ok (.ireturn, 1) := by decide +kernel
theorem dX10_countsFactors_0 : decode cX10_countsFactors 0 = .ok (.aload_n 0, 1) := by decide +kernel
theorem dX10_countsFactors_1 : decode cX10_countsFactors 1 = .ok (.invokevirtual 150, 3) := by decide +kernel
theorem dX10_countsFactors_4 : decode cX10_countsFactors 4 = .ok (.aload_n 0, 1) := by decide +kernel
theorem dX10_countsFactors_5 : decode cX10_countsFactors 5 = .ok (.iconst 0, 1) := by decide +kernel
theorem dX10_countsFactors_6 : decode cX10_countsFactors 6 = .ok (.iconst 1, 1) := by decide +kernel
theorem dX10_countsFactors_7 : decode cX10_countsFactors 7 = .ok (.invokevirtual 77, 3) := by decide +kernel
theorem dX10_countsFactors_10 : decode cX10_countsFactors 10 = .ok (.iconst 1, 1) := by decide +kernel
theorem dX10_countsFactors_11 : decode cX10_countsFactors 11 = .ok (.istore_n 1, 1) := by decide +kernel
theorem dX10_countsFactors_12 : decode cX10_countsFactors 12 = .ok (.iload_n 1, 1) := by decide +kernel
theorem dX10_countsFactors_13 : decode cX10_countsFactors 13 = .ok (.bipush 6, 2) := by decide +kernel
theorem dX10_countsFactors_15 : decode cX10_countsFactors 15 = .ok (.if_icmp .gt 43, 3) := by decide +kernel
theorem dX10_countsFactors_18 : decode cX10_countsFactors 18 = .ok (.aload_n 0, 1) := by decide +kernel
theorem dX10_countsFactors_19 : decode cX10_countsFactors 19 = .ok (.getfield 41, 3) := by decide +kernel
theorem dX10_countsFactors_22 : decode cX10_countsFactors 22 = .ok (.iload_n 1, 1) := by decide +kernel
theorem dX10_countsFactors_23 : decode cX10_countsFactors 23 = .ok (.iconst 0, 1) := by decide +kernel
theorem dX10_countsFactors_24 : decode cX10_countsFactors 24 = .ok (.iastore, 1) := by decide +kernel
theorem dX10_countsFactors_25 : decode cX10_countsFactors 25 = .ok (.aload_n 0, 1) := by decide +kernel
theorem dX10_countsFactors_26 : decode cX10_countsFactors 26 = .ok (.iconst 1, 1) := by decide +kernel
theorem dX10_countsFactors_27 : decode cX10_countsFactors 27 = .ok (.invokevirtual 70, 3) := by decide +kernel
theorem dX10_countsFactors_30 : decode cX10_countsFactors 30 = .ok (.ifCond .le 22, 3) := by decide +kernel
theorem dX10_countsFactors_33 : decode cX10_countsFactors 33 = .ok (.aload_n 0, 1) := by decide +kernel
theorem dX10_countsFactors_34 : decode cX10_countsFactors 34 = .ok (.iload_n 1, 1) := by decide +kernel
theorem dX10_countsFactors_35 : decode cX10_countsFactors 35 = .ok (.iconst 4, 1) := by decide +kernel
theorem dX10_countsFactors_36 : decode cX10_countsFactors 36 = .ok (.invokevirtual 178, 3) := by decide +kernel
theorem dX10_countsFactors_39 : decode cX10_countsFactors 39 = .ok (.aload_n 0, 1) := by decide +kernel
theorem dX10_countsFactors_40 : decode cX10_countsFactors 40 = .ok (.getfield 41, 3) := by decide +kernel
theorem dX10_countsFactors_43 : decode cX10_countsFactors 43 = .ok (.iload_n 1, 1) := by decide +kernel
theorem dX10_countsFactors_44 : decode cX10_countsFactors 44 = .ok (.aload_n 0, 1) := by decide +kernel
theorem dX10_countsFactors_45 : decode cX10_countsFactors 45 = .ok (.iconst 4, 1) := by decide +kernel
theorem dX10_countsFactors_46 : decode cX10_countsFactors 46 = .ok (.invokevirtual 70, 3) := by decide +kernel
theorem dX10_countsFactors_49 : decode cX10_countsFactors 49 = .ok (.iload_n 1, 1) := by decide +kernel
theorem dX10_countsFactors_50 : decode cX10_countsFactors 50 = .ok (.idiv, 1) := by decide +kernel
theorem dX10_countsFactors_51 : decode cX10_countsFactors 51 = .ok (.iastore, 1) := by decide +kernel
theorem dX10_countsFactors_52 : decode cX10_countsFactors 52 = .ok (.iinc 1 1, 3) := by decide +kernel
theorem dX10_countsFactors_55 : decode cX10_countsFactors 55 = .ok (.goto (-43), 3) := by decide +kernel
theorem dX10_countsFactors_58 : decode cX10_countsFactors 58 = .ok (.return_, 1) := by decide +kernel
theorem dX10_order_0 : decode cX10_order 0 = .ok (.iload_n 1, 1) := by decide +kernel
theorem dX10_order_1 : decode cX10_order 1 = .ok (.invokestatic 156, 3) := by decide +kernel
theorem dX10_order_4 : decode cX10_order 4 = .ok (.ifCond .eq 5, 3) := by decide +kernel
theorem dX10_order_7 : decode cX10_order 7 = .ok (.iconst (-1), 1) := by decide +kernel
theorem dX10_order_8 : decode cX10_order 8 = .ok (.ireturn, 1) := by decide +kernel
theorem dX10_order_9 : decode cX10_order 9 = .ok (.aload_n 0, 1) := by decide +kernel
theorem dX10_order_10 : decode cX10_order 10 = .ok (.invokevirtual 227, 3) := by decide +kernel
theorem dX10_order_13 : decode cX10_order 13 = .ok (.iconst 1, 1) := by decide +kernel
theorem dX10_order_14 : decode cX10_order 14 = .ok (.istore_n 2, 1) := by decide +kernel
theorem dX10_order_15 : decode cX10_order 15 = .ok (.iconst 1, 1) := by decide +kernel
theorem dX10_order_16 : decode cX10_order 16 = .ok (.istore_n 3, 1) := by decide +kernel
theorem dX10_order_17 : decode cX10_order 17 = .ok (.iconst 1, 1) := by decide +kernel
theorem dX10_order_18 : decode cX10_order 18 = .ok (.istore 4, 2) := by decide +kernel
theorem dX10_order_20 : decode cX10_order 20 = .ok (.iload 4, 2) := by decide +kernel
theorem dX10_order_22 : decode cX10_order 22 = .ok (.bipush 6, 2) := by decide +kernel
theorem dX10_order_24 : decode cX10_order 24 = .ok (.if_icmp .gt 46, 3) := by decide +kernel
theorem dX10_order_27 : decode cX10_order 27 = .ok (.iload_n 3, 1) := by decide +kernel
theorem dX10_order_28 : decode cX10_order 28 = .ok (.aload_n 0, 1) := by decide +kernel
theorem dX10_order_29 : decode cX10_order 29 = .ok (.getfield 7, 3) := by decide +kernel
theorem dX10_order_32 : decode cX10_order 32 = .ok (.iconst 0, 1) := by decide +kernel
theorem dX10_order_33 : decode cX10_order 33 = .ok (.iaload, 1) := by decide +kernel
theorem dX10_order_34 : decode cX10_order 34 = .ok (.imul, 1) := by decide +kernel
theorem dX10_order_35 : decode cX10_order 35 = .ok (.istore_n 3, 1) := by decide +kernel
theorem dX10_order_36 : decode cX10_order 36 = .ok (.aload_n 0, 1) := by decide +kernel
theorem dX10_order_37 : decode cX10_order 37 = .ok (.getfield 41, 3) := by decide +kernel
theorem dX10_order_40 : decode cX10_order 40 = .ok (.iload 4, 2) := by decide +kernel
theorem dX10_order_42 : decode cX10_order 42 = .ok (.iaload, 1) := by decide +kernel
theorem dX10_order_43 : decode cX10_order 43 = .ok (.ifCond .le 19, 3) := by decide +kernel
theorem dX10_order_46 : decode cX10_order 46 = .ok (.iload_n 2, 1) := by decide +kernel
theorem dX10_order_47 : decode cX10_order 47 = .ok (.iload_n 2, 1) := by decide +kernel
theorem dX10_order_48 : decode cX10_order 48 = .ok (.iload_n 3, 1) := by decide +kernel
theorem dX10_order_49 : decode cX10_order 49 = .ok (.iconst 1, 1) := by decide +kernel
theorem dX10_order_50 : decode cX10_order 50 = .ok (.isub, 1) := by decide +kernel
theorem dX10_order_51 : decode cX10_order 51 = .ok (.invokestatic 230, 3) := by decide +kernel
theorem dX10_order_54 : decode cX10_order 54 = .ok (.idiv, 1) := by decide +kernel
theorem dX10_order_55 : decode cX10_order 55 = .ok (.iload_n 3, 1) := by decide +kernel
theorem dX10_order_56 : decode cX10_order 56 = .ok (.iconst 1, 1) := by decide +kernel
theorem dX10_order_57 : decode cX10_order 57 = .ok (.isub, 1) := by decide +kernel
theorem dX10_order_58 : decode cX10_order 58 = .ok (.imul, 1) := by decide +kernel
theorem dX10_order_59 : decode cX10_order 59 = .ok (.goto 4, 3) := by decide +kernel
theorem dX10_order_62 : decode cX10_order 62 = .ok (.iload_n 2, 1) := by decide +kernel
theorem dX10_order_63 : decode cX10_order 63 = .ok (.istore_n 2, 1) := by decide +kernel
theorem dX10_order_64 : decode cX10_order 64 = .ok (.iinc 4 1, 3) := by decide +kernel
theorem dX10_order_67 : decode cX10_order 67 = .ok (.goto (-47), 3) := by decide +kernel
theorem dX10_order_70 : decode cX10_order 70 = .ok (.aload_n 0, 1) := by decide +kernel
theorem dX10_order_71 : decode cX10_order 71 = .ok (.iload_n 1, 1) := by decide +kernel
theorem dX10_order_72 : decode cX10_order 72 = .ok (.iconst 2, 1) := by decide +kernel
theorem dX10_order_73 : decode cX10_order 73 = .ok (.invokevirtual 144, 3) := by decide +kernel
theorem dX10_order_76 : decode cX10_order 76 = .ok (.aload_n 0, 1) := by decide +kernel
theorem dX10_order_77 : decode cX10_order 77 = .ok (.iload_n 2, 1) := by decide +kernel
theorem dX10_order_78 : decode cX10_order 78 = .ok (.invokevirtual 233, 3) := by decide +kernel
theorem dX10_order_81 : decode cX10_order 81 = .ok (.ifCond .ne 6, 3) := by decide +kernel
theorem dX10_order_84 : decode cX10_order 84 = .ok (.bipush (-5), 2) := by decide +kernel
theorem dX10_order_86 : decode cX10_order 86 = .ok (.ireturn, 1) := by decide +kernel
theorem dX10_order_87 : decode cX10_order 87 = .ok (.iload_n 2, 1) := by decide +kernel
theorem dX10_order_88 : decode cX10_order 88 = .ok (.istore 4, 2) := by decide +kernel
theorem dX10_order_90 : decode cX10_order 90 = .ok (.iconst 2, 1) := by decide +kernel
theorem dX10_order_91 : decode cX10_order 91 = .ok (.istore 5, 2) := by decide +kernel
theorem dX10_order_93 : decode cX10_order 93 = .ok (.iload 4, 2) := by decide +kernel
theorem dX10_order_95 : decode cX10_order 95 = .ok (.iconst 1, 1) := by decide +kernel
theorem dX10_order_96 : decode cX10_order 96 = .ok (.if_icmp .le 47, 3) := by decide +kernel
theorem dX10_order_99 : decode cX10_order 99 = .ok (.iload 4, 2) := by decide +kernel
theorem dX10_order_101 : decode cX10_order 101 = .ok (.iload 5, 2) := by decide +kernel
theorem dX10_order_103 : decode cX10_order 103 = .ok (.irem, 1) := by decide +kernel
theorem dX10_order_104 : decode cX10_order 104 = .ok (.ifCond .ne 33, 3) := by decide +kernel
theorem dX10_order_107 : decode cX10_order 107 = .ok (.iload 4, 2) := by decide +kernel
theorem dX10_order_109 : decode cX10_order 109 = .ok (.iload 5, 2) := by decide +kernel
theorem dX10_order_111 : decode cX10_order 111 = .ok (.idiv, 1) := by decide +kernel
theorem dX10_order_112 : decode cX10_order 112 = .ok (.istore 4, 2) := by decide +kernel
theorem dX10_order_114 : decode cX10_order 114 = .ok (.aload_n 0, 1) := by decide +kernel
theorem dX10_order_115 : decode cX10_order 115 = .ok (.iload_n 2, 1) := by decide +kernel
theorem dX10_order_116 : decode cX10_order 116 = .ok (.iload 5, 2) := by decide +kernel
theorem dX10_order_118 : decode cX10_order 118 = .ok (.idiv, 1) := by decide +kernel
theorem dX10_order_119 : decode cX10_order 119 = .ok (.invokevirtual 233, 3) := by decide +kernel
theorem dX10_order_122 : decode cX10_order 122 = .ok (.ifCond .eq 10, 3) := by decide +kernel
theorem dX10_order_125 : decode cX10_order 125 = .ok (.iload_n 2, 1) := by decide +kernel
theorem dX10_order_126 : decode cX10_order 126 = .ok (.iload 5, 2) := by decide +kernel
theorem dX10_order_128 : decode cX10_order 128 = .ok (.idiv, 1) := by decide +kernel
theorem dX10_order_129 : decode cX10_order 129 = .ok (.goto 4, 3) := by decide +kernel
theorem dX10_order_132 : decode cX10_order 132 = .ok (.iload_n 2, 1) := by decide +kernel
theorem dX10_order_133 : decode cX10_order 133 = .ok (.istore_n 2, 1) := by decide +kernel
theorem dX10_order_134 : decode cX10_order 134 = .ok (.goto (-35), 3) := by decide +kernel
theorem dX10_order_137 : decode cX10_order 137 = .ok (.iinc 5 1, 3) := by decide +kernel
theorem dX10_order_140 : decode cX10_order 140 = .ok (.goto (-47), 3) := by decide +kernel
theorem dX10_order_143 : decode cX10_order 143 = .ok (.iload_n 2, 1) := by decide +kernel
theorem dX10_order_144 : decode cX10_order 144 = .ok (.ireturn, 1) := by decide +kernel
theorem dX10_factors_0 : decode cX10_factors 0 = .ok (.iload_n 1, 1) := by decide +kernel
theorem dX10_factors_1 : decode cX10_factors 1 = .ok (.iconst 1, 1) := by decide +kernel
theorem dX10_factors_2 : decode cX10_factors 2 = .ok (.bipush 6, 2) := by decide +kernel
theorem dX10_factors_4 : decode cX10_factors 4 = .ok (.invokestatic 47, 3) := by decide +kernel
theorem dX10_factors_7 : decode cX10_factors 7 = .ok (.ifCond .ne 6, 3) := by decide +kernel
theorem dX10_factors_10 : decode cX10_factors 10 = .ok (.bipush (-2), 2) := by decide +kernel
theorem dX10_factors_12 : decode cX10_factors 12 = .ok (.ireturn, 1) := by decide +kernel
theorem dX10_factors_13 : decode cX10_factors 13 = .ok (.aload_n 0, 1) := by decide +kernel
theorem dX10_factors_14 : decode cX10_factors 14 = .ok (.invokevirtual 227, 3) := by decide +kernel
theorem dX10_factors_17 : decode cX10_factors 17 = .ok (.aload_n 0, 1) := by decide +kernel
theorem dX10_factors_18 : decode cX10_factors 18 = .ok (.getfield 41, 3) := by decide +kernel
theorem dX10_factors_21 : decode cX10_factors 21 = .ok (.iload_n 1, 1) := by decide +kernel
theorem dX10_factors_22 : decode cX10_factors 22 = .ok (.iaload, 1) := by decide +kernel
theorem dX10_factors_23 : decode cX10_factors 23 = .ok (.ireturn, 1) := by decide +kernel
theorem dX10_allFactors_0 : decode cX10_allFactors 0 = .ok (.aload_n 0, 1) := by decide +kernel
theorem dX10_allFactors_1 : decode cX10_allFactors 1 = .ok (.invokevirtual 227, 3) := by decide +kernel
theorem dX10_allFactors_4 : decode cX10_allFactors 4 = .ok (.aload_n 0, 1) := by decide +kernel
theorem dX10_allFactors_5 : decode cX10_allFactors 5 = .ok (.getfield 41, 3) := by decide +kernel
theorem dX10_allFactors_8 : decode cX10_allFactors 8 = .ok (.iconst 1, 1) := by decide +kernel
theorem dX10_allFactors_9 : decode cX10_allFactors 9 = .ok (.iaload, 1) := by decide +kernel
theorem dX10_allFactors_10 : decode cX10_allFactors 10 = .ok (.aload_n 0, 1) := by decide +kernel
theorem dX10_allFactors_11 : decode cX10_allFactors 11 = .ok (.getfield 41, 3) := by decide +kernel
theorem dX10_allFactors_14 : decode cX10_allFactors 14 = .ok (.iconst 2, 1) := by decide +kernel
theorem dX10_allFactors_15 : decode cX10_allFactors 15 = .ok (.iaload, 1) := by decide +kernel
theorem dX10_allFactors_16 : decode cX10_allFactors 16 = .ok (.iadd, 1) := by decide +kernel
theorem dX10_allFactors_17 : decode cX10_allFactors 17 = .ok (.aload_n 0, 1) := by decide +kernel
theorem dX10_allFactors_18 : decode cX10_allFactors 18 = .ok (.getfield 41, 3) := by decide +kernel
theorem dX10_allFactors_21 : decode cX10_allFactors 21 = .ok (.iconst 3, 1) := by decide +kernel
theorem dX10_allFactors_22 : decode cX10_allFactors 22 = .ok (.iaload, 1) := by decide +kernel
theorem dX10_allFactors_23 : decode cX10_allFactors 23 = .ok (.iadd, 1) := by decide +kernel
theorem dX10_allFactors_24 : decode cX10_allFactors 24 = .ok (.aload_n 0, 1) := by decide +kernel
theorem dX10_allFactors_25 : decode cX10_allFactors 25 = .ok (.getfield 41, 3) := by decide +kernel
theorem dX10_allFactors_28 : decode cX10_allFactors 28 = .ok (.iconst 4, 1) := by decide +kernel
theorem dX10_allFactors_29 : decode cX10_allFactors 29 = .ok (.iaload, 1) := by decide +kernel
theorem dX10_allFactors_30 : decode cX10_allFactors 30 = .ok (.iadd, 1) := by decide +kernel
theorem dX10_allFactors_31 : decode cX10_allFactors 31 = .ok (.aload_n 0, 1) := by decide +kernel
theorem dX10_allFactors_32 : decode cX10_allFactors 32 = .ok (.getfield 41, 3) := by decide +kernel
theorem dX10_allFactors_35 : decode cX10_allFactors 35 = .ok (.iconst 5, 1) := by decide +kernel
theorem dX10_allFactors_36 : decode cX10_allFactors 36 = .ok (.iaload, 1) := by decide +kernel
theorem dX10_allFactors_37 : decode cX10_allFactors 37 = .ok (.iadd, 1) := by decide +kernel
theorem dX10_allFactors_38 : decode cX10_allFactors 38 = .ok (.aload_n 0, 1) := by decide +kernel
theorem dX10_allFactors_39 : decode cX10_allFactors 39 = .ok (.getfield 41, 3) := by decide +kernel
theorem dX10_allFactors_42 : decode cX10_allFactors 42 = .ok (.bipush 6, 2) := by decide +kernel
theorem dX10_allFactors_44 : decode cX10_allFactors 44 = .ok (.iaload, 1) := by decide +kernel
theorem dX10_allFactors_45 : decode cX10_allFactors 45 = .ok (.iadd, 1) := by decide +kernel
theorem dX10_allFactors_46 : decode cX10_allFactors 46 = .ok (.ireturn, 1) := by decide +kernel
theorem dX10_zeros_0 : decode cX10_zeros 0 = .ok (.iconst 0, 1) := by decide +kernel
theorem dX10_zeros_1 : decode cX10_zeros 1 = .ok (.istore_n 1, 1) := by decide +kernel
theorem dX10_zeros_2 : decode cX10_zeros 2 = .ok (.iconst 0, 1) := by decide +kernel
theorem dX10_zeros_3 : decode cX10_zeros 3 = .ok (.istore_n 2, 1) := by decide +kernel
theorem dX10_zeros_4 : decode cX10_zeros 4 = .ok (.iload_n 2, 1) := by decide +kernel
theorem dX10_zeros_5 : decode cX10_zeros 5 = .ok (.bipush 6, 2) := by decide +kernel
theorem dX10_zeros_7 : decode cX10_zeros 7 = .ok (.if_icmp .ge 31, 3) := by decide +kernel
theorem dX10_zeros_10 : decode cX10_zeros 10 = .ok (.aload_n 0, 1) := by decide +kernel
theorem dX10_zeros_11 : decode cX10_zeros 11 = .ok (.iload_n 2, 1) := by decide +kernel
theorem dX10_zeros_12 : decode cX10_zeros 12 = .ok (.iconst 2, 1) := by decide +kernel
theorem dX10_zeros_13 : decode cX10_zeros 13 = .ok (.invokevirtual 144, 3) := by decide +kernel
theorem dX10_zeros_16 : decode cX10_zeros 16 = .ok (.iload_n 1, 1) := by decide +kernel
theorem dX10_zeros_17 : decode cX10_zeros 17 = .ok (.aload_n 0, 1) := by decide +kernel
theorem dX10_zeros_18 : decode cX10_zeros 18 = .ok (.iconst 2, 1) := by decide +kernel
theorem dX10_zeros_19 : decode cX10_zeros 19 = .ok (.invokevirtual 70, 3) := by decide +kernel
theorem dX10_zeros_22 : decode cX10_zeros 22 = .ok (.ifCond .ge 7, 3) := by decide +kernel
theorem dX10_zeros_25 : decode cX10_zeros 25 = .ok (.iconst 1, 1) := by decide +kernel
theorem dX10_zeros_26 : decode cX10_zeros 26 = .ok (.goto 4, 3) := by decide +kernel
theorem dX10_zeros_29 : decode cX10_zeros 29 = .ok (.iconst 0, 1) := by decide +kernel
theorem dX10_zeros_30 : decode cX10_zeros 30 = .ok (.iadd, 1) := by decide +kernel
theorem dX10_zeros_31 : decode cX10_zeros 31 = .ok (.istore_n 1, 1) := by decide +kernel
theorem dX10_zeros_32 : decode cX10_zeros 32 = .ok (.iinc 2 1, 3) := by decide +kernel
theorem dX10_zeros_35 : decode cX10_zeros 35 = .ok (.goto (-31), 3) := by decide +kernel
theorem dX10_zeros_38 : decode cX10_zeros 38 = .ok (.iload_n 1, 1) := by decide +kernel
theorem dX10_zeros_39 : decode cX10_zeros 39 = .ok (.ireturn, 1) := by decide +kernel
theorem dX10_count_0 : decode cX10_count 0 = .ok (.iload_n 1, 1) := by decide +kernel
theorem dX10_count_1 : decode cX10_count 1 = .ok (.tableswitch 101 0 7 #[47, 54, 59, 67, 72, 86, 91, 96], 47) := by decide +kernel
theorem dX10_count_48 : decode cX10_count 48 = .ok (.aload_n 0, 1) := by decide +kernel
theorem dX10_count_49 : decode cX10_count 49 = .ok (.getfield 7, 3) := by decide +kernel
theorem dX10_count_52 : decode cX10_count 52 = .ok (.iconst 0, 1) := by decide +kernel
theorem dX10_count_53 : decode cX10_count 53 = .ok (.iaload, 1) := by decide +kernel
theorem dX10_count_54 : decode cX10_count 54 = .ok (.ireturn, 1) := by decide +kernel
theorem dX10_count_55 : decode cX10_count 55 = .ok (.aload_n 0, 1) := by decide +kernel
theorem dX10_count_56 : decode cX10_count 56 = .ok (.invokevirtual 153, 3) := by decide +kernel
theorem dX10_count_59 : decode cX10_count 59 = .ok (.ireturn, 1) := by decide +kernel
theorem dX10_count_60 : decode cX10_count 60 = .ok (.aload_n 0, 1) := by decide +kernel
theorem dX10_count_61 : decode cX10_count 61 = .ok (.getfield 7, 3) := by decide +kernel
theorem dX10_count_64 : decode cX10_count 64 = .ok (.bipush 44, 2) := by decide +kernel
theorem dX10_count_66 : decode cX10_count 66 = .ok (.iaload, 1) := by decide +kernel
theorem dX10_count_67 : decode cX10_count 67 = .ok (.ireturn, 1) := by decide +kernel
theorem dX10_count_68 : decode cX10_count 68 = .ok (.aload_n 0, 1) := by decide +kernel
theorem dX10_count_69 : decode cX10_count 69 = .ok (.invokevirtual 236, 3) := by decide +kernel
theorem dX10_count_72 : decode cX10_count 72 = .ok (.ireturn, 1) := by decide +kernel
theorem dX10_count_73 : decode cX10_count 73 = .ok (.aload_n 0, 1) := by decide +kernel
theorem dX10_count_74 : decode cX10_count 74 = .ok (.aload_n 0, 1) := by decide +kernel
theorem dX10_count_75 : decode cX10_count 75 = .ok (.getfield 7, 3) := by decide +kernel
theorem dX10_count_78 : decode cX10_count 78 = .ok (.bipush 44, 2) := by decide +kernel
theorem dX10_count_80 : decode cX10_count 80 = .ok (.iaload, 1) := by decide +kernel
theorem dX10_count_81 : decode cX10_count 81 = .ok (.iconst 1, 1) := by decide +kernel
theorem dX10_count_82 : decode cX10_count 82 = .ok (.isub, 1) := by decide +kernel
theorem dX10_count_83 : decode cX10_count 83 = .ok (.invokevirtual 220, 3) := by decide +kernel
theorem dX10_count_86 : decode cX10_count 86 = .ok (.ireturn, 1) := by decide +kernel
theorem dX10_count_87 : decode cX10_count 87 = .ok (.aload_n 0, 1) := by decide +kernel
theorem dX10_count_88 : decode cX10_count 88 = .ok (.invokevirtual 239, 3) := by decide +kernel
theorem dX10_count_91 : decode cX10_count 91 = .ok (.ireturn, 1) := by decide +kernel
theorem dX10_count_92 : decode cX10_count 92 = .ok (.aload_n 0, 1) := by decide +kernel
theorem dX10_count_93 : decode cX10_count 93 = .ok (.getfield 51, 3) := by decide +kernel
theorem dX10_count_96 : decode cX10_count 96 = .ok (.ireturn, 1) := by decide +kernel
theorem dX10_count_97 : decode cX10_count 97 = .ok (.aload_n 0, 1) := by decide +kernel
theorem dX10_count_98 : decode cX10_count 98 = .ok (.getfield 187, 3) := by decide +kernel
theorem dX10_count_101 : decode cX10_count 101 = .ok (.ireturn, 1) := by decide +kernel
theorem dX10_count_102 : decode cX10_count 102 = .ok (.bipush (-2), 2) := by decide +kernel
theorem dX10_count_104 : decode cX10_count 104 = .ok (.ireturn, 1) := by decide +kernel
theorem dL_law_0 : decode cL_law 0 = .ok (.new 7, 3) := by decide +kernel
theorem dL_law_3 : decode cL_law 3 = .ok (.dup, 1) := by decide +kernel
theorem dL_law_4 : decode cL_law 4 = .ok (.invokespecial 9, 3) := by decide +kernel
theorem dL_law_7 : decode cL_law 7 = .ok (.astore_n 1, 1) := by decide +kernel
theorem dL_law_8 : decode cL_law 8 = .ok (.new 10, 3) := by decide +kernel
theorem dL_law_11 : decode cL_law 11 = .ok (.dup, 1) := by decide +kernel
theorem dL_law_12 : decode cL_law 12 = .ok (.invokespecial 12, 3) := by decide +kernel
theorem dL_law_15 : decode cL_law 15 = .ok (.astore_n 2, 1) := by decide +kernel
theorem dL_law_16 : decode cL_law 16 = .ok (.iconst 0, 1) := by decide +kernel
theorem dL_law_17 : decode cL_law 17 = .ok (.istore_n 3, 1) := by decide +kernel
theorem dL_law_18 : decode cL_law 18 = .ok (.iload_n 3, 1) := by decide +kernel
theorem dL_law_19 : decode cL_law 19 = .ok (.aload_n 0, 1) := by decide +kernel
theorem dL_law_20 : decode cL_law 20 = .ok (.arraylength, 1) := by decide +kernel
theorem dL_law_21 : decode cL_law 21 = .ok (.iconst 4, 1) := by decide +kernel
theorem dL_law_22 : decode cL_law 22 = .ok (.isub, 1) := by decide +kernel
theorem dL_law_23 : decode cL_law 23 = .ok (.if_icmp .gt 805, 3) := by decide +kernel
theorem dL_law_26 : decode cL_law 26 = .ok (.aload_n 0, 1) := by decide +kernel
theorem dL_law_27 : decode cL_law 27 = .ok (.iload_n 3, 1) := by decide +kernel
theorem dL_law_28 : decode cL_law 28 = .ok (.iaload, 1) := by decide +kernel
theorem dL_law_29 : decode cL_law 29 = .ok (.bipush 31, 2) := by decide +kernel
theorem dL_law_31 : decode cL_law 31 = .ok (.iand, 1) := by decide +kernel
theorem dL_law_32 : decode cL_law 32 = .ok (.tableswitch 790 0 25 #[120, 143, 156, 199, 212, 255, 278, 291, 324, 347, 372, 385, 398, 411, 424, 447, 480, 513, 556, 589, 622, 665, 698, 721, 744, 767], 120) := by decide +kernel
theorem dL_law_152 : decode cL_law 152 = .ok (.aload_n 1, 1) := by decide +kernel
theorem dL_law_153 : decode cL_law 153 = .ok (.aload_n 0, 1) := by decide +kernel
theorem dL_law_154 : decode cL_law 154 = .ok (.iload_n 3, 1) := by decide +kernel
theorem dL_law_155 : decode cL_law 155 = .ok (.iconst 1, 1) := by decide +kernel
theorem dL_law_156 : decode cL_law 156 = .ok (.iadd, 1) := by decide +kernel
theorem dL_law_157 : decode cL_law 157 = .ok (.iaload, 1) := by decide +kernel
theorem dL_law_158 : decode cL_law 158 = .ok (.invokevirtual 13, 3) := by decide +kernel
theorem dL_law_161 : decode cL_law 161 = .ok (.aload_n 2, 1) := by decide +kernel
theorem dL_law_162 : decode cL_law 162 = .ok (.aload_n 0, 1) := by decide +kernel
theorem dL_law_163 : decode cL_law 163 = .ok (.iload_n 3, 1) := by decide +kernel
theorem dL_law_164 : decode cL_law 164 = .ok (.iconst 1, 1) := by decide +kernel
theorem dL_law_165 : decode cL_law 165 = .ok (.iadd, 1) := by decide +kernel
theorem dL_law_166 : decode cL_law 166 = .ok (.iaload, 1) := by decide +kernel
theorem dL_law_167 : decode cL_law 167 = .ok (.invokevirtual 17, 3) := by decide +kernel
theorem dL_law_170 : decode cL_law 170 = .ok (.if_icmp .eq 652, 3) := by decide +kernel
theorem dL_law_173 : decode cL_law 173 = .ok (.iconst 0, 1) := by decide +kernel
theorem dL_law_174 : decode cL_law 174 = .ok (.ireturn, 1) := by decide +kernel
theorem dL_law_175 : decode cL_law 175 = .ok (.aload_n 1, 1) := by decide +kernel
theorem dL_law_176 : decode cL_law 176 = .ok (.invokevirtual 18, 3) := by decide +kernel
theorem dL_law_179 : decode cL_law 179 = .ok (.aload_n 2, 1) := by decide +kernel
theorem dL_law_180 : decode cL_law 180 = .ok (.invokevirtual 22, 3) := by decide +kernel
theorem dL_law_183 : decode cL_law 183 = .ok (.if_icmp .eq 639, 3) := by decide +kernel
theorem dL_law_186 : decode cL_law 186 = .ok (.iconst 0, 1) := by decide +kernel
theorem dL_law_187 : decode cL_law 187 = .ok (.ireturn, 1) := by decide +kernel
theorem dL_law_188 : decode cL_law 188 = .ok (.aload_n 1, 1) := by decide +kernel
theorem dL_law_189 : decode cL_law 189 = .ok (.aload_n 0, 1) := by decide +kernel
theorem dL_law_190 : decode cL_law 190 = .ok (.iload_n 3, 1) := by decide +kernel
theorem dL_law_191 : decode cL_law 191 = .ok (.iconst 1, 1) := by decide +kernel
theorem dL_law_192 : decode cL_law 192 = .ok (.iadd, 1) := by decide +kernel
theorem dL_law_193 : decode cL_law 193 = .ok (.iaload, 1) := by decide +kernel
theorem dL_law_194 : decode cL_law 194 = .ok (.aload_n 0, 1) := by decide +kernel
theorem dL_law_195 : decode cL_law 195 = .ok (.iload_n 3, 1) := by decide +kernel
theorem dL_law_196 : decode cL_law 196 = .ok (.iconst 2, 1) := by decide +kernel
theorem dL_law_197 : decode cL_law 197 = .ok (.iadd, 1) := by decide +kernel
theorem dL_law_198 : decode cL_law 198 = .ok (.iaload, 1) := by decide +kernel
theorem dL_law_199 : decode cL_law 199 = .ok (.aload_n 0, 1) := by decide +kernel
theorem dL_law_200 : decode cL_law 200 = .ok (.iload_n 3, 1) := by decide +kernel
theorem dL_law_201 : decode cL_law 201 = .ok (.iconst 3, 1) := by decide +kernel
theorem dL_law_202 : decode cL_law 202 = .ok (.iadd, 1) := by decide +kernel
theorem dL_law_203 : decode cL_law 203 = .ok (.iaload, 1) := by decide +kernel
theorem dL_law_204 : decode cL_law 204 = .ok (.invokevirtual 23, 3) := by decide +kernel
theorem dL_law_207 : decode cL_law 207 = .ok (.aload_n 2, 1) := by decide +kernel
theorem dL_law_208 : decode cL_law 208 = .ok (.aload_n 0, 1) := by decide +kernel
theorem dL_law_209 : decode cL_law 209 = .ok (.iload_n 3, 1) := by decide +kernel
theorem dL_law_210 : decode cL_law 210 = .ok (.iconst 1, 1) := by decide +kernel
theorem dL_law_211 : decode cL_law 211 = .ok (.iadd, 1) := by decide +kernel
theorem dL_law_212 : decode cL_law 212 = .ok (.iaload, 1) := by decide +kernel
theorem dL_law_213 : decode cL_law 213 = .ok (.aload_n 0, 1) := by decide +kernel
theorem dL_law_214 : decode cL_law 214 = .ok (.iload_n 3, 1) := by decide +kernel
theorem dL_law_215 : decode cL_law 215 = .ok (.iconst 2, 1) := by decide +kernel
theorem dL_law_216 : decode cL_law 216 = .ok (.iadd, 1) := by decide +kernel
theorem dL_law_217 : decode cL_law 217 = .ok (.iaload, 1) := by decide +kernel
theorem dL_law_218 : decode cL_law 218 = .ok (.aload_n 0, 1) := by decide +kernel
theorem dL_law_219 : decode cL_law 219 = .ok (.iload_n 3, 1) := by decide +kernel
theorem dL_law_220 : decode cL_law 220 = .ok (.iconst 3, 1) := by decide +kernel
theorem dL_law_221 : decode cL_law 221 = .ok (.iadd, 1) := by decide +kernel
theorem dL_law_222 : decode cL_law 222 = .ok (.iaload, 1) := by decide +kernel
theorem dL_law_223 : decode cL_law 223 = .ok (.invokevirtual 27, 3) := by decide +kernel
theorem dL_law_226 : decode cL_law 226 = .ok (.if_icmp .eq 596, 3) := by decide +kernel
theorem dL_law_229 : decode cL_law 229 = .ok (.iconst 0, 1) := by decide +kernel
theorem dL_law_230 : decode cL_law 230 = .ok (.ireturn, 1) := by decide +kernel
theorem dL_law_231 : decode cL_law 231 = .ok (.aload_n 1, 1) := by decide +kernel
theorem dL_law_232 : decode cL_law 232 = .ok (.invokevirtual 28, 3) := by decide +kernel
theorem dL_law_235 : decode cL_law 235 = .ok (.aload_n 2, 1) := by decide +kernel
theorem dL_law_236 : decode cL_law 236 = .ok (.invokevirtual 31, 3) := by decide +kernel
theorem dL_law_239 : decode cL_law 239 = .ok (.if_icmp .eq 583, 3) := by decide +kernel
theorem dL_law_242 : decode cL_law 242 = .ok (.iconst 0, 1) := by decide +kernel
theorem dL_law_243 : decode cL_law 243 = .ok (.ireturn, 1) := by decide +kernel
theorem dL_law_244 : decode cL_law 244 = .ok (.aload_n 1, 1) := by decide +kernel
theorem dL_law_245 : decode cL_law 245 = .ok (.aload_n 0, 1) := by decide +kernel
theorem dL_law_246 : decode cL_law 246 = .ok (.iload_n 3, 1) := by decide +kernel
theorem dL_law_247 : decode cL_law 247 = .ok (.iconst 1, 1) := by decide +kernel
theorem dL_law_248 : decode cL_law 248 = .ok (.iadd, 1) := by decide +kernel
theorem dL_law_249 : decode cL_law 249 = .ok (.iaload, 1) := by decide +kernel
theorem dL_law_250 : decode cL_law 250 = .ok (.aload_n 0, 1) := by decide +kernel
theorem dL_law_251 : decode cL_law 251 = .ok (.iload_n 3, 1) := by decide +kernel
theorem dL_law_252 : decode cL_law 252 = .ok (.iconst 2, 1) := by decide +kernel
theorem dL_law_253 : decode cL_law 253 = .ok (.iadd, 1) := by decide +kernel
theorem dL_law_254 : decode cL_law 254 = .ok (.iaload, 1) := by decide +kernel
theorem dL_law_255 : decode cL_law 255 = .ok (.aload_n 0, 1) := by decide +kernel
theorem dL_law_256 : decode cL_law 256 = .ok (.iload_n 3, 1) := by decide +kernel
theorem dL_law_257 : decode cL_law 257 = .ok (.iconst 3, 1) := by decide +kernel
theorem dL_law_258 : decode cL_law 258 = .ok (.iadd, 1) := by decide +kernel
theorem dL_law_259 : decode cL_law 259 = .ok (.iaload, 1) := by decide +kernel
theorem dL_law_260 : decode cL_law 260 = .ok (.invokevirtual 32, 3) := by decide +kernel
theorem dL_law_263 : decode cL_law 263 = .ok (.aload_n 2, 1) := by decide +kernel
theorem dL_law_264 : decode cL_law 264 = .ok (.aload_n 0, 1) := by decide +kernel
theorem dL_law_265 : decode cL_law 265 = .ok (.iload_n 3, 1) := by decide +kernel
theorem dL_law_266 : decode cL_law 266 = .ok (.iconst 1, 1) := by decide +kernel
theorem dL_law_267 : decode cL_law 267 = .ok (.iadd, 1) := by decide +kernel
theorem dL_law_268 : decode cL_law 268 = .ok (.iaload, 1) := by decide +kernel
theorem dL_law_269 : decode cL_law 269 = .ok (.aload_n 0, 1) := by decide +kernel
theorem dL_law_270 : decode cL_law 270 = .ok (.iload_n 3, 1) := by decide +kernel
theorem dL_law_271 : decode cL_law 271 = .ok (.iconst 2, 1) := by decide +kernel
theorem dL_law_272 : decode cL_law 272 = .ok (.iadd, 1) := by decide +kernel
theorem dL_law_273 : decode cL_law 273 = .ok (.iaload, 1) := by decide +kernel
theorem dL_law_274 : decode cL_law 274 = .ok (.aload_n 0, 1) := by decide +kernel
theorem dL_law_275 : decode cL_law 275 = .ok (.iload_n 3, 1) := by decide +kernel
theorem dL_law_276 : decode cL_law 276 = .ok (.iconst 3, 1) := by decide +kernel
theorem dL_law_277 : decode cL_law 277 = .ok (.iadd, 1) := by decide +kernel
theorem dL_law_278 : decode cL_law 278 = .ok (.iaload, 1) := by decide +kernel
theorem dL_law_279 : decode cL_law 279 = .ok (.invokevirtual 35, 3) := by decide +kernel
theorem dL_law_282 : decode cL_law 282 = .ok (.if_icmp .eq 540, 3) := by decide +kernel
theorem dL_law_285 : decode cL_law 285 = .ok (.iconst 0, 1) := by decide +kernel
theorem dL_law_286 : decode cL_law 286 = .ok (.ireturn, 1) := by decide +kernel
theorem dL_law_287 : decode cL_law 287 = .ok (.aload_n 1, 1) := by decide +kernel
theorem dL_law_288 : decode cL_law 288 = .ok (.aload_n 0, 1) := by decide +kernel
theorem dL_law_289 : decode cL_law 289 = .ok (.iload_n 3, 1) := by decide +kernel
theorem dL_law_290 : decode cL_law 290 = .ok (.iconst 1, 1) := by decide +kernel
theorem dL_law_291 : decode cL_law 291 = .ok (.iadd, 1) := by decide +kernel
theorem dL_law_292 : decode cL_law 292 = .ok (.iaload, 1) := by decide +kernel
theorem dL_law_293 : decode cL_law 293 = .ok (.invokevirtual 36, 3) := by decide +kernel
theorem dL_law_296 : decode cL_law 296 = .ok (.aload_n 2, 1) := by decide +kernel
theorem dL_law_297 : decode cL_law 297 = .ok (.aload_n 0, 1) := by decide +kernel
theorem dL_law_298 : decode cL_law 298 = .ok (.iload_n 3, 1) := by decide +kernel
theorem dL_law_299 : decode cL_law 299 = .ok (.iconst 1, 1) := by decide +kernel
theorem dL_law_300 : decode cL_law 300 = .ok (.iadd, 1) := by decide +kernel
theorem dL_law_301 : decode cL_law 301 = .ok (.iaload, 1) := by decide +kernel
theorem dL_law_302 : decode cL_law 302 = .ok (.invokevirtual 39, 3) := by decide +kernel
theorem dL_law_305 : decode cL_law 305 = .ok (.if_icmp .eq 517, 3) := by decide +kernel
theorem dL_law_308 : decode cL_law 308 = .ok (.iconst 0, 1) := by decide +kernel
theorem dL_law_309 : decode cL_law 309 = .ok (.ireturn, 1) := by decide +kernel
theorem dL_law_310 : decode cL_law 310 = .ok (.aload_n 1, 1) := by decide +kernel
theorem dL_law_311 : decode cL_law 311 = .ok (.invokevirtual 40, 3) := by decide +kernel
theorem dL_law_314 : decode cL_law 314 = .ok (.aload_n 2, 1) := by decide +kernel
theorem dL_law_315 : decode cL_law 315 = .ok (.invokevirtual 43, 3) := by decide +kernel
theorem dL_law_318 : decode cL_law 318 = .ok (.if_icmp .eq 504, 3) := by decide +kernel
theorem dL_law_321 : decode cL_law 321 = .ok (.iconst 0, 1) := by decide +kernel
theorem dL_law_322 : decode cL_law 322 = .ok (.ireturn, 1) := by decide +kernel
theorem dL_law_323 : decode cL_law 323 = .ok (.aload_n 1, 1) := by decide +kernel
theorem dL_law_324 : decode cL_law 324 = .ok (.aload_n 0, 1) := by decide +kernel
theorem dL_law_325 : decode cL_law 325 = .ok (.iload_n 3, 1) := by decide +kernel
theorem dL_law_326 : decode cL_law 326 = .ok (.iconst 1, 1) := by decide +kernel
theorem dL_law_327 : decode cL_law 327 = .ok (.iadd, 1) := by decide +kernel
theorem dL_law_328 : decode cL_law 328 = .ok (.iaload, 1) := by decide +kernel
theorem dL_law_329 : decode cL_law 329 = .ok (.aload_n 0, 1) := by decide +kernel
theorem dL_law_330 : decode cL_law 330 = .ok (.iload_n 3, 1) := by decide +kernel
theorem dL_law_331 : decode cL_law 331 = .ok (.iconst 2, 1) := by decide +kernel
theorem dL_law_332 : decode cL_law 332 = .ok (.iadd, 1) := by decide +kernel
theorem dL_law_333 : decode cL_law 333 = .ok (.iaload, 1) := by decide +kernel
theorem dL_law_334 : decode cL_law 334 = .ok (.invokevirtual 44, 3) := by decide +kernel
theorem dL_law_337 : decode cL_law 337 = .ok (.aload_n 2, 1) := by decide +kernel
theorem dL_law_338 : decode cL_law 338 = .ok (.aload_n 0, 1) := by decide +kernel
theorem dL_law_339 : decode cL_law 339 = .ok (.iload_n 3, 1) := by decide +kernel
theorem dL_law_340 : decode cL_law 340 = .ok (.iconst 1, 1) := by decide +kernel
theorem dL_law_341 : decode cL_law 341 = .ok (.iadd, 1) := by decide +kernel
theorem dL_law_342 : decode cL_law 342 = .ok (.iaload, 1) := by decide +kernel
theorem dL_law_343 : decode cL_law 343 = .ok (.aload_n 0, 1) := by decide +kernel
theorem dL_law_344 : decode cL_law 344 = .ok (.iload_n 3, 1) := by decide +kernel
theorem dL_law_345 : decode cL_law 345 = .ok (.iconst 2, 1) := by decide +kernel
theorem dL_law_346 : decode cL_law 346 = .ok (.iadd, 1) := by decide +kernel
theorem dL_law_347 : decode cL_law 347 = .ok (.iaload, 1) := by decide +kernel
theorem dL_law_348 : decode cL_law 348 = .ok (.invokevirtual 48, 3) := by decide +kernel
theorem dL_law_351 : decode cL_law 351 = .ok (.if_icmp .eq 471, 3) := by decide +kernel
theorem dL_law_354 : decode cL_law 354 = .ok (.iconst 0, 1) := by decide +kernel
theorem dL_law_355 : decode cL_law 355 = .ok (.ireturn, 1) := by decide +kernel
theorem dL_law_356 : decode cL_law 356 = .ok (.aload_n 1, 1) := by decide +kernel
theorem dL_law_357 : decode cL_law 357 = .ok (.aload_n 0, 1) := by decide +kernel
theorem dL_law_358 : decode cL_law 358 = .ok (.iload_n 3, 1) := by decide +kernel
theorem dL_law_359 : decode cL_law 359 = .ok (.iconst 1, 1) := by decide +kernel
theorem dL_law_360 : decode cL_law 360 = .ok (.iadd, 1) := by decide +kernel
theorem dL_law_361 : decode cL_law 361 = .ok (.iaload, 1) := by decide +kernel
theorem dL_law_362 : decode cL_law 362 = .ok (.invokevirtual 49, 3) := by decide +kernel
theorem dL_law_365 : decode cL_law 365 = .ok (.aload_n 2, 1) := by decide +kernel
theorem dL_law_366 : decode cL_law 366 = .ok (.aload_n 0, 1) := by decide +kernel
theorem dL_law_367 : decode cL_law 367 = .ok (.iload_n 3, 1) := by decide +kernel
theorem dL_law_368 : decode cL_law 368 = .ok (.iconst 1, 1) := by decide +kernel
theorem dL_law_369 : decode cL_law 369 = .ok (.iadd, 1) := by decide +kernel
theorem dL_law_370 : decode cL_law 370 = .ok (.iaload, 1) := by decide +kernel
theorem dL_law_371 : decode cL_law 371 = .ok (.invokevirtual 52, 3) := by decide +kernel
theorem dL_law_374 : decode cL_law 374 = .ok (.if_icmp .eq 448, 3) := by decide +kernel
theorem dL_law_377 : decode cL_law 377 = .ok (.iconst 0, 1) := by decide +kernel
theorem dL_law_378 : decode cL_law 378 = .ok (.ireturn, 1) := by decide +kernel
theorem dL_law_379 : decode cL_law 379 = .ok (.aload_n 1, 1) := by decide +kernel
theorem dL_law_380 : decode cL_law 380 = .ok (.aload_n 0, 1) := by decide +kernel
theorem dL_law_381 : decode cL_law 381 = .ok (.iload_n 3, 1) := by decide +kernel
theorem dL_law_382 : decode cL_law 382 = .ok (.iconst 1, 1) := by decide +kernel
theorem dL_law_383 : decode cL_law 383 = .ok (.iadd, 1) := by decide +kernel
theorem dL_law_384 : decode cL_law 384 = .ok (.iaload, 1) := by decide +kernel
theorem dL_law_385 : decode cL_law 385 = .ok (.i2c, 1) := by decide +kernel
theorem dL_law_386 : decode cL_law 386 = .ok (.invokevirtual 53, 3) := by decide +kernel
theorem dL_law_389 : decode cL_law 389 = .ok (.aload_n 2, 1) := by decide +kernel
theorem dL_law_390 : decode cL_law 390 = .ok (.aload_n 0, 1) := by decide +kernel
theorem dL_law_391 : decode cL_law 391 = .ok (.iload_n 3, 1) := by decide +kernel
theorem dL_law_392 : decode cL_law 392 = .ok (.iconst 1, 1) := by decide +kernel
theorem dL_law_393 : decode cL_law 393 = .ok (.iadd, 1) := by decide +kernel
theorem dL_law_394 : decode cL_law 394 = .ok (.iaload, 1) := by decide +kernel
theorem dL_law_395 : decode cL_law 395 = .ok (.i2c, 1) := by decide +kernel
theorem dL_law_396 : decode cL_law 396 = .ok (.invokevirtual 57, 3) := by decide +kernel
theorem dL_law_399 : decode cL_law 399 = .ok (.if_icmp .eq 423, 3) := by decide +kernel
theorem dL_law_402 : decode cL_law 402 = .ok (.iconst 0, 1) := by decide +kernel
theorem dL_law_403 : decode cL_law 403 = .ok (.ireturn, 1) := by decide +kernel
theorem dL_law_404 : decode cL_law 404 = .ok (.aload_n 1, 1) := by decide +kernel
theorem dL_law_405 : decode cL_law 405 = .ok (.invokevirtual 58, 3) := by decide +kernel
theorem dL_law_408 : decode cL_law 408 = .ok (.aload_n 2, 1) := by decide +kernel
theorem dL_law_409 : decode cL_law 409 = .ok (.invokevirtual 61, 3) := by decide +kernel
theorem dL_law_412 : decode cL_law 412 = .ok (.if_icmp .eq 410, 3) := by decide +kernel
theorem dL_law_415 : decode cL_law 415 = .ok (.iconst 0, 1) := by decide +kernel
theorem dL_law_416 : decode cL_law 416 = .ok (.ireturn, 1) := by decide +kernel
theorem dL_law_417 : decode cL_law 417 = .ok (.aload_n 1, 1) := by decide +kernel
theorem dL_law_418 : decode cL_law 418 = .ok (.invokevirtual 62, 3) := by decide +kernel
theorem dL_law_421 : decode cL_law 421 = .ok (.aload_n 2, 1) := by decide +kernel
theorem dL_law_422 : decode cL_law 422 = .ok (.invokevirtual 65, 3) := by decide +kernel
theorem dL_law_425 : decode cL_law 425 = .ok (.if_icmp .eq 397, 3) := by decide +kernel
theorem dL_law_428 : decode cL_law 428 = .ok (.iconst 0, 1) := by decide +kernel
theorem dL_law_429 : decode cL_law 429 = .ok (.ireturn, 1) := by decide +kernel
theorem dL_law_430 : decode cL_law 430 = .ok (.aload_n 1, 1) := by decide +kernel
theorem dL_law_431 : decode cL_law 431 = .ok (.invokevirtual 66, 3) := by decide +kernel
theorem dL_law_434 : decode cL_law 434 = .ok (.aload_n 2, 1) := by decide +kernel
theorem dL_law_435 : decode cL_law 435 = .ok (.invokevirtual 69, 3) := by decide +kernel
theorem dL_law_438 : decode cL_law 438 = .ok (.if_icmp .eq 384, 3) := by decide +kernel
theorem dL_law_441 : decode cL_law 441 = .ok (.iconst 0, 1) := by decide +kernel
theorem dL_law_442 : decode cL_law 442 = .ok (.ireturn, 1) := by decide +kernel
theorem dL_law_443 : decode cL_law 443 = .ok (.aload_n 1, 1) := by decide +kernel
theorem dL_law_444 : decode cL_law 444 = .ok (.invokevirtual 70, 3) := by decide +kernel
theorem dL_law_447 : decode cL_law 447 = .ok (.aload_n 2, 1) := by decide +kernel
theorem dL_law_448 : decode cL_law 448 = .ok (.invokevirtual 73, 3) := by decide +kernel
theorem dL_law_451 : decode cL_law 451 = .ok (.if_icmp .eq 371, 3) := by decide +kernel
theorem dL_law_454 : decode cL_law 454 = .ok (.iconst 0, 1) := by decide +kernel
theorem dL_law_455 : decode cL_law 455 = .ok (.ireturn, 1) := by decide +kernel
theorem dL_law_456 : decode cL_law 456 = .ok (.aload_n 1, 1) := by decide +kernel
theorem dL_law_457 : decode cL_law 457 = .ok (.aload_n 0, 1) := by decide +kernel
theorem dL_law_458 : decode cL_law 458 = .ok (.iload_n 3, 1) := by decide +kernel
theorem dL_law_459 : decode cL_law 459 = .ok (.iconst 1, 1) := by decide +kernel
theorem dL_law_460 : decode cL_law 460 = .ok (.iadd, 1) := by decide +kernel
theorem dL_law_461 : decode cL_law 461 = .ok (.iaload, 1) := by decide +kernel
theorem dL_law_462 : decode cL_law 462 = .ok (.invokevirtual 74, 3) := by decide +kernel
theorem dL_law_465 : decode cL_law 465 = .ok (.aload_n 2, 1) := by decide +kernel
theorem dL_law_466 : decode cL_law 466 = .ok (.aload_n 0, 1) := by decide +kernel
theorem dL_law_467 : decode cL_law 467 = .ok (.iload_n 3, 1) := by decide +kernel
theorem dL_law_468 : decode cL_law 468 = .ok (.iconst 1, 1) := by decide +kernel
theorem dL_law_469 : decode cL_law 469 = .ok (.iadd, 1) := by decide +kernel
theorem dL_law_470 : decode cL_law 470 = .ok (.iaload, 1) := by decide +kernel
theorem dL_law_471 : decode cL_law 471 = .ok (.invokevirtual 77, 3) := by decide +kernel
theorem dL_law_474 : decode cL_law 474 = .ok (.if_icmp .eq 348, 3) := by decide +kernel
theorem dL_law_477 : decode cL_law 477 = .ok (.iconst 0, 1) := by decide +kernel
theorem dL_law_478 : decode cL_law 478 = .ok (.ireturn, 1) := by decide +kernel
theorem dL_law_479 : decode cL_law 479 = .ok (.aload_n 1, 1) := by decide +kernel
theorem dL_law_480 : decode cL_law 480 = .ok (.aload_n 0, 1) := by decide +kernel
theorem dL_law_481 : decode cL_law 481 = .ok (.iload_n 3, 1) := by decide +kernel
theorem dL_law_482 : decode cL_law 482 = .ok (.iconst 1, 1) := by decide +kernel
theorem dL_law_483 : decode cL_law 483 = .ok (.iadd, 1) := by decide +kernel
theorem dL_law_484 : decode cL_law 484 = .ok (.iaload, 1) := by decide +kernel
theorem dL_law_485 : decode cL_law 485 = .ok (.aload_n 0, 1) := by decide +kernel
theorem dL_law_486 : decode cL_law 486 = .ok (.iload_n 3, 1) := by decide +kernel
theorem dL_law_487 : decode cL_law 487 = .ok (.iconst 2, 1) := by decide +kernel
theorem dL_law_488 : decode cL_law 488 = .ok (.iadd, 1) := by decide +kernel
theorem dL_law_489 : decode cL_law 489 = .ok (.iaload, 1) := by decide +kernel
theorem dL_law_490 : decode cL_law 490 = .ok (.invokevirtual 78, 3) := by decide +kernel
theorem dL_law_493 : decode cL_law 493 = .ok (.aload_n 2, 1) := by decide +kernel
theorem dL_law_494 : decode cL_law 494 = .ok (.aload_n 0, 1) := by decide +kernel
theorem dL_law_495 : decode cL_law 495 = .ok (.iload_n 3, 1) := by decide +kernel
theorem dL_law_496 : decode cL_law 496 = .ok (.iconst 1, 1) := by decide +kernel
theorem dL_law_497 : decode cL_law 497 = .ok (.iadd, 1) := by decide +kernel
theorem dL_law_498 : decode cL_law 498 = .ok (.iaload, 1) := by decide +kernel
theorem dL_law_499 : decode cL_law 499 = .ok (.aload_n 0, 1) := by decide +kernel
theorem dL_law_500 : decode cL_law 500 = .ok (.iload_n 3, 1) := by decide +kernel
theorem dL_law_501 : decode cL_law 501 = .ok (.iconst 2, 1) := by decide +kernel
theorem dL_law_502 : decode cL_law 502 = .ok (.iadd, 1) := by decide +kernel
theorem dL_law_503 : decode cL_law 503 = .ok (.iaload, 1) := by decide +kernel
theorem dL_law_504 : decode cL_law 504 = .ok (.invokevirtual 81, 3) := by decide +kernel
theorem dL_law_507 : decode cL_law 507 = .ok (.if_icmp .eq 315, 3) := by decide +kernel
theorem dL_law_510 : decode cL_law 510 = .ok (.iconst 0, 1) := by decide +kernel
theorem dL_law_511 : decode cL_law 511 = .ok (.ireturn, 1) := by decide +kernel
theorem dL_law_512 : decode cL_law 512 = .ok (.aload_n 1, 1) := by decide +kernel
theorem dL_law_513 : decode cL_law 513 = .ok (.aload_n 0, 1) := by decide +kernel
theorem dL_law_514 : decode cL_law 514 = .ok (.iload_n 3, 1) := by decide +kernel
theorem dL_law_515 : decode cL_law 515 = .ok (.iconst 1, 1) := by decide +kernel
theorem dL_law_516 : decode cL_law 516 = .ok (.iadd, 1) := by decide +kernel
theorem dL_law_517 : decode cL_law 517 = .ok (.iaload, 1) := by decide +kernel
theorem dL_law_518 : decode cL_law 518 = .ok (.aload_n 0, 1) := by decide +kernel
theorem dL_law_519 : decode cL_law 519 = .ok (.iload_n 3, 1) := by decide +kernel
theorem dL_law_520 : decode cL_law 520 = .ok (.iconst 2, 1) := by decide +kernel
theorem dL_law_521 : decode cL_law 521 = .ok (.iadd, 1) := by decide +kernel
theorem dL_law_522 : decode cL_law 522 = .ok (.iaload, 1) := by decide +kernel
theorem dL_law_523 : decode cL_law 523 = .ok (.invokevirtual 82, 3) := by decide +kernel
theorem dL_law_526 : decode cL_law 526 = .ok (.aload_n 2, 1) := by decide +kernel
theorem dL_law_527 : decode cL_law 527 = .ok (.aload_n 0, 1) := by decide +kernel
theorem dL_law_528 : decode cL_law 528 = .ok (.iload_n 3, 1) := by decide +kernel
theorem dL_law_529 : decode cL_law 529 = .ok (.iconst 1, 1) := by decide +kernel
theorem dL_law_530 : decode cL_law 530 = .ok (.iadd, 1) := by decide +kernel
theorem dL_law_531 : decode cL_law 531 = .ok (.iaload, 1) := by decide +kernel
theorem dL_law_532 : decode cL_law 532 = .ok (.aload_n 0, 1) := by decide +kernel
theorem dL_law_533 : decode cL_law 533 = .ok (.iload_n 3, 1) := by decide +kernel
theorem dL_law_534 : decode cL_law 534 = .ok (.iconst 2, 1) := by decide +kernel
theorem dL_law_535 : decode cL_law 535 = .ok (.iadd, 1) := by decide +kernel
theorem dL_law_536 : decode cL_law 536 = .ok (.iaload, 1) := by decide +kernel
theorem dL_law_537 : decode cL_law 537 = .ok (.invokevirtual 85, 3) := by decide +kernel
theorem dL_law_540 : decode cL_law 540 = .ok (.if_icmp .eq 282, 3) := by decide +kernel
theorem dL_law_543 : decode cL_law 543 = .ok (.iconst 0, 1) := by decide +kernel
theorem dL_law_544 : decode cL_law 544 = .ok (.ireturn, 1) := by decide +kernel
theorem dL_law_545 : decode cL_law 545 = .ok (.aload_n 1, 1) := by decide +kernel
theorem dL_law_546 : decode cL_law 546 = .ok (.aload_n 0, 1) := by decide +kernel
theorem dL_law_547 : decode cL_law 547 = .ok (.iload_n 3, 1) := by decide +kernel
theorem dL_law_548 : decode cL_law 548 = .ok (.iconst 1, 1) := by decide +kernel
theorem dL_law_549 : decode cL_law 549 = .ok (.iadd, 1) := by decide +kernel
theorem dL_law_550 : decode cL_law 550 = .ok (.iaload, 1) := by decide +kernel
theorem dL_law_551 : decode cL_law 551 = .ok (.aload_n 0, 1) := by decide +kernel
theorem dL_law_552 : decode cL_law 552 = .ok (.iload_n 3, 1) := by decide +kernel
theorem dL_law_553 : decode cL_law 553 = .ok (.iconst 2, 1) := by decide +kernel
theorem dL_law_554 : decode cL_law 554 = .ok (.iadd, 1) := by decide +kernel
theorem dL_law_555 : decode cL_law 555 = .ok (.iaload, 1) := by decide +kernel
theorem dL_law_556 : decode cL_law 556 = .ok (.aload_n 0, 1) := by decide +kernel
theorem dL_law_557 : decode cL_law 557 = .ok (.iload_n 3, 1) := by decide +kernel
theorem dL_law_558 : decode cL_law 558 = .ok (.iconst 3, 1) := by decide +kernel
theorem dL_law_559 : decode cL_law 559 = .ok (.iadd, 1) := by decide +kernel
theorem dL_law_560 : decode cL_law 560 = .ok (.iaload, 1) := by decide +kernel
theorem dL_law_561 : decode cL_law 561 = .ok (.invokevirtual 86, 3) := by decide +kernel
theorem dL_law_564 : decode cL_law 564 = .ok (.aload_n 2, 1) := by decide +kernel
theorem dL_law_565 : decode cL_law 565 = .ok (.aload_n 0, 1) := by decide +kernel
theorem dL_law_566 : decode cL_law 566 = .ok (.iload_n 3, 1) := by decide +kernel
theorem dL_law_567 : decode cL_law 567 = .ok (.iconst 1, 1) := by decide +kernel
theorem dL_law_568 : decode cL_law 568 = .ok (.iadd, 1) := by decide +kernel
theorem dL_law_569 : decode cL_law 569 = .ok (.iaload, 1) := by decide +kernel
theorem dL_law_570 : decode cL_law 570 = .ok (.aload_n 0, 1) := by decide +kernel
theorem dL_law_571 : decode cL_law 571 = .ok (.iload_n 3, 1) := by decide +kernel
theorem dL_law_572 : decode cL_law 572 = .ok (.iconst 2, 1) := by decide +kernel
theorem dL_law_573 : decode cL_law 573 = .ok (.iadd, 1) := by decide +kernel
theorem dL_law_574 : decode cL_law 574 = .ok (.iaload, 1) := by decide +kernel
theorem dL_law_575 : decode cL_law 575 = .ok (.aload_n 0, 1) := by decide +kernel
theorem dL_law_576 : decode cL_law 576 = .ok (.iload_n 3, 1) := by decide +kernel
theorem dL_law_577 : decode cL_law 577 = .ok (.iconst 3, 1) := by decide +kernel
theorem dL_law_578 : decode cL_law 578 = .ok (.iadd, 1) := by decide +kernel
theorem dL_law_579 : decode cL_law 579 = .ok (.iaload, 1) := by decide +kernel
theorem dL_law_580 : decode cL_law 580 = .ok (.invokevirtual 89, 3) := by decide +kernel
theorem dL_law_583 : decode cL_law 583 = .ok (.if_icmp .eq 239, 3) := by decide +kernel
theorem dL_law_586 : decode cL_law 586 = .ok (.iconst 0, 1) := by decide +kernel
theorem dL_law_587 : decode cL_law 587 = .ok (.ireturn, 1) := by decide +kernel
theorem dL_law_588 : decode cL_law 588 = .ok (.aload_n 1, 1) := by decide +kernel
theorem dL_law_589 : decode cL_law 589 = .ok (.aload_n 0, 1) := by decide +kernel
theorem dL_law_590 : decode cL_law 590 = .ok (.iload_n 3, 1) := by decide +kernel
theorem dL_law_591 : decode cL_law 591 = .ok (.iconst 1, 1) := by decide +kernel
theorem dL_law_592 : decode cL_law 592 = .ok (.iadd, 1) := by decide +kernel
theorem dL_law_593 : decode cL_law 593 = .ok (.iaload, 1) := by decide +kernel
theorem dL_law_594 : decode cL_law 594 = .ok (.aload_n 0, 1) := by decide +kernel
theorem dL_law_595 : decode cL_law 595 = .ok (.iload_n 3, 1) := by decide +kernel
theorem dL_law_596 : decode cL_law 596 = .ok (.iconst 2, 1) := by decide +kernel
theorem dL_law_597 : decode cL_law 597 = .ok (.iadd, 1) := by decide +kernel
theorem dL_law_598 : decode cL_law 598 = .ok (.iaload, 1) := by decide +kernel
theorem dL_law_599 : decode cL_law 599 = .ok (.invokevirtual 90, 3) := by decide +kernel
theorem dL_law_602 : decode cL_law 602 = .ok (.aload_n 2, 1) := by decide +kernel
theorem dL_law_603 : decode cL_law 603 = .ok (.aload_n 0, 1) := by decide +kernel
theorem dL_law_604 : decode cL_law 604 = .ok (.iload_n 3, 1) := by decide +kernel
theorem dL_law_605 : decode cL_law 605 = .ok (.iconst 1, 1) := by decide +kernel
theorem dL_law_606 : decode cL_law 606 = .ok (.iadd, 1) := by decide +kernel
theorem dL_law_607 : decode cL_law 607 = .ok (.iaload, 1) := by decide +kernel
theorem dL_law_608 : decode cL_law 608 = .ok (.aload_n 0, 1) := by decide +kernel
theorem dL_law_609 : decode cL_law 609 = .ok (.iload_n 3, 1) := by decide +kernel
theorem dL_law_610 : decode cL_law 610 = .ok (.iconst 2, 1) := by decide +kernel
theorem dL_law_611 : decode cL_law 611 = .ok (.iadd, 1) := by decide +kernel
theorem dL_law_612 : decode cL_law 612 = .ok (.iaload, 1) := by decide +kernel
theorem dL_law_613 : decode cL_law 613 = .ok (.invokevirtual 93, 3) := by decide +kernel
theorem dL_law_616 : decode cL_law 616 = .ok (.if_icmp .eq 206, 3) := by decide +kernel
theorem dL_law_619 : decode cL_law 619 = .ok (.iconst 0, 1) := by decide +kernel
theorem dL_law_620 : decode cL_law 620 = .ok (.ireturn, 1) := by decide +kernel
theorem dL_law_621 : decode cL_law 621 = .ok (.aload_n 1, 1) := by decide +kernel
theorem dL_law_622 : decode cL_law 622 = .ok (.aload_n 0, 1) := by decide +kernel
theorem dL_law_623 : decode cL_law 623 = .ok (.iload_n 3, 1) := by decide +kernel
theorem dL_law_624 : decode cL_law 624 = .ok (.iconst 1, 1) := by decide +kernel
theorem dL_law_625 : decode cL_law 625 = .ok (.iadd, 1) := by decide +kernel
theorem dL_law_626 : decode cL_law 626 = .ok (.iaload, 1) := by decide +kernel
theorem dL_law_627 : decode cL_law 627 = .ok (.aload_n 0, 1) := by decide +kernel
theorem dL_law_628 : decode cL_law 628 = .ok (.iload_n 3, 1) := by decide +kernel
theorem dL_law_629 : decode cL_law 629 = .ok (.iconst 2, 1) := by decide +kernel
theorem dL_law_630 : decode cL_law 630 = .ok (.iadd, 1) := by decide +kernel
theorem dL_law_631 : decode cL_law 631 = .ok (.iaload, 1) := by decide +kernel
theorem dL_law_632 : decode cL_law 632 = .ok (.invokevirtual 94, 3) := by decide +kernel
theorem dL_law_635 : decode cL_law 635 = .ok (.aload_n 2, 1) := by decide +kernel
theorem dL_law_636 : decode cL_law 636 = .ok (.aload_n 0, 1) := by decide +kernel
theorem dL_law_637 : decode cL_law 637 = .ok (.iload_n 3, 1) := by decide +kernel
theorem dL_law_638 : decode cL_law 638 = .ok (.iconst 1, 1) := by decide +kernel
theorem dL_law_639 : decode cL_law 639 = .ok (.iadd, 1) := by decide +kernel
theorem dL_law_640 : decode cL_law 640 = .ok (.iaload, 1) := by decide +kernel
theorem dL_law_641 : decode cL_law 641 = .ok (.aload_n 0, 1) := by decide +kernel
theorem dL_law_642 : decode cL_law 642 = .ok (.iload_n 3, 1) := by decide +kernel
theorem dL_law_643 : decode cL_law 643 = .ok (.iconst 2, 1) := by decide +kernel
theorem dL_law_644 : decode cL_law 644 = .ok (.iadd, 1) := by decide +kernel
theorem dL_law_645 : decode cL_law 645 = .ok (.iaload, 1) := by decide +kernel
theorem dL_law_646 : decode cL_law 646 = .ok (.invokevirtual 97, 3) := by decide +kernel
theorem dL_law_649 : decode cL_law 649 = .ok (.if_icmp .eq 173, 3) := by decide +kernel
theorem dL_law_652 : decode cL_law 652 = .ok (.iconst 0, 1) := by decide +kernel
theorem dL_law_653 : decode cL_law 653 = .ok (.ireturn, 1) := by decide +kernel
theorem dL_law_654 : decode cL_law 654 = .ok (.aload_n 1, 1) := by decide +kernel
theorem dL_law_655 : decode cL_law 655 = .ok (.aload_n 0, 1) := by decide +kernel
theorem dL_law_656 : decode cL_law 656 = .ok (.iload_n 3, 1) := by decide +kernel
theorem dL_law_657 : decode cL_law 657 = .ok (.iconst 1, 1) := by decide +kernel
theorem dL_law_658 : decode cL_law 658 = .ok (.iadd, 1) := by decide +kernel
theorem dL_law_659 : decode cL_law 659 = .ok (.iaload, 1) := by decide +kernel
theorem dL_law_660 : decode cL_law 660 = .ok (.aload_n 0, 1) := by decide +kernel
theorem dL_law_661 : decode cL_law 661 = .ok (.iload_n 3, 1) := by decide +kernel
theorem dL_law_662 : decode cL_law 662 = .ok (.iconst 2, 1) := by decide +kernel
theorem dL_law_663 : decode cL_law 663 = .ok (.iadd, 1) := by decide +kernel
theorem dL_law_664 : decode cL_law 664 = .ok (.iaload, 1) := by decide +kernel
theorem dL_law_665 : decode cL_law 665 = .ok (.aload_n 0, 1) := by decide +kernel
theorem dL_law_666 : decode cL_law 666 = .ok (.iload_n 3, 1) := by decide +kernel
theorem dL_law_667 : decode cL_law 667 = .ok (.iconst 3, 1) := by decide +kernel
theorem dL_law_668 : decode cL_law 668 = .ok (.iadd, 1) := by decide +kernel
theorem dL_law_669 : decode cL_law 669 = .ok (.iaload, 1) := by decide +kernel
theorem dL_law_670 : decode cL_law 670 = .ok (.invokevirtual 98, 3) := by decide +kernel
theorem dL_law_673 : decode cL_law 673 = .ok (.aload_n 2, 1) := by decide +kernel
theorem dL_law_674 : decode cL_law 674 = .ok (.aload_n 0, 1) := by decide +kernel
theorem dL_law_675 : decode cL_law 675 = .ok (.iload_n 3, 1) := by decide +kernel
theorem dL_law_676 : decode cL_law 676 = .ok (.iconst 1, 1) := by decide +kernel
theorem dL_law_677 : decode cL_law 677 = .ok (.iadd, 1) := by decide +kernel
theorem dL_law_678 : decode cL_law 678 = .ok (.iaload, 1) := by decide +kernel
theorem dL_law_679 : decode cL_law 679 = .ok (.aload_n 0, 1) := by decide +kernel
theorem dL_law_680 : decode cL_law 680 = .ok (.iload_n 3, 1) := by decide +kernel
theorem dL_law_681 : decode cL_law 681 = .ok (.iconst 2, 1) := by decide +kernel
theorem dL_law_682 : decode cL_law 682 = .ok (.iadd, 1) := by decide +kernel
theorem dL_law_683 : decode cL_law 683 = .ok (.iaload, 1) := by decide +kernel
theorem dL_law_684 : decode cL_law 684 = .ok (.aload_n 0, 1) := by decide +kernel
theorem dL_law_685 : decode cL_law 685 = .ok (.iload_n 3, 1) := by decide +kernel
theorem dL_law_686 : decode cL_law 686 = .ok (.iconst 3, 1) := by decide +kernel
theorem dL_law_687 : decode cL_law 687 = .ok (.iadd, 1) := by decide +kernel
theorem dL_law_688 : decode cL_law 688 = .ok (.iaload, 1) := by decide +kernel
theorem dL_law_689 : decode cL_law 689 = .ok (.invokevirtual 101, 3) := by decide +kernel
theorem dL_law_692 : decode cL_law 692 = .ok (.if_icmp .eq 130, 3) := by decide +kernel
theorem dL_law_695 : decode cL_law 695 = .ok (.iconst 0, 1) := by decide +kernel
theorem dL_law_696 : decode cL_law 696 = .ok (.ireturn, 1) := by decide +kernel
theorem dL_law_697 : decode cL_law 697 = .ok (.aload_n 1, 1) := by decide +kernel
theorem dL_law_698 : decode cL_law 698 = .ok (.aload_n 0, 1) := by decide +kernel
theorem dL_law_699 : decode cL_law 699 = .ok (.iload_n 3, 1) := by decide +kernel
theorem dL_law_700 : decode cL_law 700 = .ok (.iconst 1, 1) := by decide +kernel
theorem dL_law_701 : decode cL_law 701 = .ok (.iadd, 1) := by decide +kernel
theorem dL_law_702 : decode cL_law 702 = .ok (.iaload, 1) := by decide +kernel
theorem dL_law_703 : decode cL_law 703 = .ok (.aload_n 0, 1) := by decide +kernel
theorem dL_law_704 : decode cL_law 704 = .ok (.iload_n 3, 1) := by decide +kernel
theorem dL_law_705 : decode cL_law 705 = .ok (.iconst 2, 1) := by decide +kernel
theorem dL_law_706 : decode cL_law 706 = .ok (.iadd, 1) := by decide +kernel
theorem dL_law_707 : decode cL_law 707 = .ok (.iaload, 1) := by decide +kernel
theorem dL_law_708 : decode cL_law 708 = .ok (.invokevirtual 102, 3) := by decide +kernel
theorem dL_law_711 : decode cL_law 711 = .ok (.aload_n 2, 1) := by decide +kernel
theorem dL_law_712 : decode cL_law 712 = .ok (.aload_n 0, 1) := by decide +kernel
theorem dL_law_713 : decode cL_law 713 = .ok (.iload_n 3, 1) := by decide +kernel
theorem dL_law_714 : decode cL_law 714 = .ok (.iconst 1, 1) := by decide +kernel
theorem dL_law_715 : decode cL_law 715 = .ok (.iadd, 1) := by decide +kernel
theorem dL_law_716 : decode cL_law 716 = .ok (.iaload, 1) := by decide +kernel
theorem dL_law_717 : decode cL_law 717 = .ok (.aload_n 0, 1) := by decide +kernel
theorem dL_law_718 : decode cL_law 718 = .ok (.iload_n 3, 1) := by decide +kernel
theorem dL_law_719 : decode cL_law 719 = .ok (.iconst 2, 1) := by decide +kernel
theorem dL_law_720 : decode cL_law 720 = .ok (.iadd, 1) := by decide +kernel
theorem dL_law_721 : decode cL_law 721 = .ok (.iaload, 1) := by decide +kernel
theorem dL_law_722 : decode cL_law 722 = .ok (.invokevirtual 105, 3) := by decide +kernel
theorem dL_law_725 : decode cL_law 725 = .ok (.if_icmp .eq 97, 3) := by decide +kernel
theorem dL_law_728 : decode cL_law 728 = .ok (.iconst 0, 1) := by decide +kernel
theorem dL_law_729 : decode cL_law 729 = .ok (.ireturn, 1) := by decide +kernel
theorem dL_law_730 : decode cL_law 730 = .ok (.aload_n 1, 1) := by decide +kernel
theorem dL_law_731 : decode cL_law 731 = .ok (.aload_n 0, 1) := by decide +kernel
theorem dL_law_732 : decode cL_law 732 = .ok (.iload_n 3, 1) := by decide +kernel
theorem dL_law_733 : decode cL_law 733 = .ok (.iconst 1, 1) := by decide +kernel
theorem dL_law_734 : decode cL_law 734 = .ok (.iadd, 1) := by decide +kernel
theorem dL_law_735 : decode cL_law 735 = .ok (.iaload, 1) := by decide +kernel
theorem dL_law_736 : decode cL_law 736 = .ok (.invokevirtual 106, 3) := by decide +kernel
theorem dL_law_739 : decode cL_law 739 = .ok (.aload_n 2, 1) := by decide +kernel
theorem dL_law_740 : decode cL_law 740 = .ok (.aload_n 0, 1) := by decide +kernel
theorem dL_law_741 : decode cL_law 741 = .ok (.iload_n 3, 1) := by decide +kernel
theorem dL_law_742 : decode cL_law 742 = .ok (.iconst 1, 1) := by decide +kernel
theorem dL_law_743 : decode cL_law 743 = .ok (.iadd, 1) := by decide +kernel
theorem dL_law_744 : decode cL_law 744 = .ok (.iaload, 1) := by decide +kernel
theorem dL_law_745 : decode cL_law 745 = .ok (.invokevirtual 109, 3) := by decide +kernel
theorem dL_law_748 : decode cL_law 748 = .ok (.if_icmp .eq 74, 3) := by decide +kernel
theorem dL_law_751 : decode cL_law 751 = .ok (.iconst 0, 1) := by decide +kernel
theorem dL_law_752 : decode cL_law 752 = .ok (.ireturn, 1) := by decide +kernel
theorem dL_law_753 : decode cL_law 753 = .ok (.aload_n 1, 1) := by decide +kernel
theorem dL_law_754 : decode cL_law 754 = .ok (.aload_n 0, 1) := by decide +kernel
theorem dL_law_755 : decode cL_law 755 = .ok (.iload_n 3, 1) := by decide +kernel
theorem dL_law_756 : decode cL_law 756 = .ok (.iconst 1, 1) := by decide +kernel
theorem dL_law_757 : decode cL_law 757 = .ok (.iadd, 1) := by decide +kernel
theorem dL_law_758 : decode cL_law 758 = .ok (.iaload, 1) := by decide +kernel
theorem dL_law_759 : decode cL_law 759 = .ok (.invokevirtual 110, 3) := by decide +kernel
theorem dL_law_762 : decode cL_law 762 = .ok (.aload_n 2, 1) := by decide +kernel
theorem dL_law_763 : decode cL_law 763 = .ok (.aload_n 0, 1) := by decide +kernel
theorem dL_law_764 : decode cL_law 764 = .ok (.iload_n 3, 1) := by decide +kernel
theorem dL_law_765 : decode cL_law 765 = .ok (.iconst 1, 1) := by decide +kernel
theorem dL_law_766 : decode cL_law 766 = .ok (.iadd, 1) := by decide +kernel
theorem dL_law_767 : decode cL_law 767 = .ok (.iaload, 1) := by decide +kernel
theorem dL_law_768 : decode cL_law 768 = .ok (.invokevirtual 113, 3) := by decide +kernel
theorem dL_law_771 : decode cL_law 771 = .ok (.if_icmp .eq 51, 3) := by decide +kernel
theorem dL_law_774 : decode cL_law 774 = .ok (.iconst 0, 1) := by decide +kernel
theorem dL_law_775 : decode cL_law 775 = .ok (.ireturn, 1) := by decide +kernel
theorem dL_law_776 : decode cL_law 776 = .ok (.aload_n 1, 1) := by decide +kernel
theorem dL_law_777 : decode cL_law 777 = .ok (.aload_n 0, 1) := by decide +kernel
theorem dL_law_778 : decode cL_law 778 = .ok (.iload_n 3, 1) := by decide +kernel
theorem dL_law_779 : decode cL_law 779 = .ok (.iconst 1, 1) := by decide +kernel
theorem dL_law_780 : decode cL_law 780 = .ok (.iadd, 1) := by decide +kernel
theorem dL_law_781 : decode cL_law 781 = .ok (.iaload, 1) := by decide +kernel
theorem dL_law_782 : decode cL_law 782 = .ok (.invokevirtual 114, 3) := by decide +kernel
theorem dL_law_785 : decode cL_law 785 = .ok (.aload_n 2, 1) := by decide +kernel
theorem dL_law_786 : decode cL_law 786 = .ok (.aload_n 0, 1) := by decide +kernel
theorem dL_law_787 : decode cL_law 787 = .ok (.iload_n 3, 1) := by decide +kernel
theorem dL_law_788 : decode cL_law 788 = .ok (.iconst 1, 1) := by decide +kernel
theorem dL_law_789 : decode cL_law 789 = .ok (.iadd, 1) := by decide +kernel
theorem dL_law_790 : decode cL_law 790 = .ok (.iaload, 1) := by decide +kernel
theorem dL_law_791 : decode cL_law 791 = .ok (.invokevirtual 117, 3) := by decide +kernel
theorem dL_law_794 : decode cL_law 794 = .ok (.if_icmp .eq 28, 3) := by decide +kernel
theorem dL_law_797 : decode cL_law 797 = .ok (.iconst 0, 1) := by decide +kernel
theorem dL_law_798 : decode cL_law 798 = .ok (.ireturn, 1) := by decide +kernel
theorem dL_law_799 : decode cL_law 799 = .ok (.aload_n 1, 1) := by decide +kernel
theorem dL_law_800 : decode cL_law 800 = .ok (.aload_n 0, 1) := by decide +kernel
theorem dL_law_801 : decode cL_law 801 = .ok (.iload_n 3, 1) := by decide +kernel
theorem dL_law_802 : decode cL_law 802 = .ok (.iconst 1, 1) := by decide +kernel
theorem dL_law_803 : decode cL_law 803 = .ok (.iadd, 1) := by decide +kernel
theorem dL_law_804 : decode cL_law 804 = .ok (.iaload, 1) := by decide +kernel
theorem dL_law_805 : decode cL_law 805 = .ok (.invokevirtual 118, 3) := by decide +kernel
theorem dL_law_808 : decode cL_law 808 = .ok (.aload_n 2, 1) := by decide +kernel
theorem dL_law_809 : decode cL_law 809 = .ok (.aload_n 0, 1) := by decide +kernel
theorem dL_law_810 : decode cL_law 810 = .ok (.iload_n 3, 1) := by decide +kernel
theorem dL_law_811 : decode cL_law 811 = .ok (.iconst 1, 1) := by decide +kernel
theorem dL_law_812 : decode cL_law 812 = .ok (.iadd, 1) := by decide +kernel
theorem dL_law_813 : decode cL_law 813 = .ok (.iaload, 1) := by decide +kernel
theorem dL_law_814 : decode cL_law 814 = .ok (.invokevirtual 121, 3) := by decide +kernel
theorem dL_law_817 : decode cL_law 817 = .ok (.if_icmp .eq 5, 3) := by decide +kernel
theorem dL_law_820 : decode cL_law 820 = .ok (.iconst 0, 1) := by decide +kernel
theorem dL_law_821 : decode cL_law 821 = .ok (.ireturn, 1) := by decide +kernel
theorem dL_law_822 : decode cL_law 822 = .ok (.iinc 3 4, 3) := by decide +kernel
theorem dL_law_825 : decode cL_law 825 = .ok (.goto (-807), 3) := by decide +kernel
theorem dL_law_828 : decode cL_law 828 = .ok (.iconst 1, 1) := by decide +kernel
theorem dL_law_829 : decode cL_law 829 = .ok (.ireturn, 1) := by decide +kernel
end
section
/-! ints as whole numbers -/
abbrev inR (z : Int) : Prop := -2147483648 ≤ z ∧ z < 2147483648
def iI (z : Int) : Int32 := Int32.ofInt z
theorem iI_toInt {z : Int} (h : inR z) : (iI z).toInt = z := Int32.toInt_ofInt_of_le (by omega) (by omega)
theorem iI_of (x : Int32) : iI x.toInt = x := Int32.ofInt_toInt x
theorem inR_of (x : Int32) : inR x.toInt := ⟨by have := Int32.le_toInt x; omega, by have := Int32.toInt_lt x; omega⟩
theorem iI_add (a b : Int) : iI a + iI b = iI (a + b) := (Int32.ofInt_add a b).symm
theorem iI_sub (a b : Int) : iI a - iI b = iI (a - b) := (Int32.ofInt_sub a b).symm
theorem iI_mul (a b : Int) : iI a * iI b = iI (a * b) := (Int32.ofInt_mul a b).symm
theorem iI_neg (a : Int) : -iI a = iI (-a) := (Int32.ofInt_neg a).symm
theorem iI_lt {a b : Int} (ha : inR a) (hb : inR b) : iI a < iI b ↔ a < b := by
  rw [Int32.lt_iff_toInt_lt, iI_toInt ha, iI_toInt hb]
theorem iI_le {a b : Int} (ha : inR a) (hb : inR b) : iI a ≤ iI b ↔ a ≤ b := by
  rw [Int32.le_iff_toInt_le, iI_toInt ha, iI_toInt hb]
theorem iI_eq {a b : Int} (ha : inR a) (hb : inR b) : iI a = iI b ↔ a = b :=
  ⟨fun h => by rw [← iI_toInt ha, ← iI_toInt hb, h], fun h => by rw [h]⟩
theorem iI_0 : iI 0 = 0 := rfl
theorem inR0 : inR 0 := by decide
theorem iI_div {a b : Int} (ha : inR a) (hb : inR b) : iI a / iI b = iI (a.tdiv b) :=
  (Int32.ofInt_tdiv (by rw [Int32.toInt_minValue]; omega) (by rw [show Int32.maxValue.toInt = 2147483647 from rfl]; omega) (by rw [Int32.toInt_minValue]; omega) (by rw [show Int32.maxValue.toInt = 2147483647 from rfl]; omega)).symm
theorem iI_rem {a b : Int} (ha : inR a) (hb : inR b) : iI a - iI a / iI b * iI b = iI (a.tmod b) := by
  rw [iI_div ha hb, iI_mul, iI_sub]
  congr 1
  rw [Int.tmod_def, Int.mul_comm]
theorem inR_tmod {a b : Int} (ha : inR a) : inR (a.tmod b) := by
  have h1 : (a.tmod b).natAbs ≤ a.natAbs := by
    rw [Int.natAbs_tmod]
    exact Nat.mod_le _ _
  have h2 : 0 ≤ a → 0 ≤ a.tmod b := fun h => Int.tmod_nonneg b h
  have h3 : a < 0 → a.tmod b ≤ 0 := fun h => by
    have h4 := Int.tmod_nonneg (a := -a) b (by omega)
    rw [Int.neg_tmod] at h4
    omega
  constructor <;> omega
theorem inR_tdiv {a b : Int} (ha : inR a) (h : 1 < b) : inR (a.tdiv b) := by
  have h1 : (a.tdiv b).natAbs ≤ a.natAbs := by
    rw [Int.natAbs_tdiv]
    exact Nat.div_le_self _ _
  have h2 : a = -2147483648 → a.tdiv b ≠ 2147483648 := by
    intro h3 h4
    have h5 : a.tdiv b ≤ 0 := by
      rw [h3, show (-2147483648 : Int) = -(2147483648) from rfl, Int.neg_tdiv]
      have := Int.tdiv_nonneg (a := 2147483648) (b := b) (by decide) (by omega)
      omega
    omega
  constructor <;> omega
def iand (a b : Int) : Int := (iI a &&& iI b).toInt
def ior (a b : Int) : Int := (iI a ||| iI b).toInt
def ishr (a b : Int) : Int := (iI a >>> (iI b &&& 31)).toInt
theorem inR_iand (a b : Int) : inR (iand a b) := inR_of _
theorem inR_ior (a b : Int) : inR (ior a b) := inR_of _
theorem inR_ishr (a b : Int) : inR (ishr a b) := inR_of _
theorem clamp_iI {k : Int} (h : inR k) (h0 : 0 ≤ k) : (iI k).toNatClampNeg = k.toNat := by
  have h1 := Int32.toInt_eq_toNatClampNeg (a := iI k) (by rw [← iI_0]; exact (iI_le inR0 h).mpr h0)
  rw [iI_toInt h] at h1
  omega
theorem in_iI {k : Int} {n : Nat} (h : inR k) (h0 : 0 ≤ k) (h1 : k < n) : vp_in (iI k) n := by
  rw [vp_in_iff, iI_toInt h]
  exact ⟨h0, h1⟩
theorem narrow_i (x : Int) : narrow .int (.int (iI x)) = .int (iI x) := rfl
theorem fits_i (x : Int) : fits .int (.int (iI x)) = true := rfl
theorem narrow_z {x : Int} (h : x = 0 ∨ x = 1) : narrow .boolean (.int (iI x)) = .int (iI x) := by
  rcases h with rfl | rfl <;> rfl
theorem fits_z {x : Int} (h : x = 0 ∨ x = 1) : fits .boolean (.int (iI x)) = true := by
  rcases h with rfl | rfl <;> rfl
/-! the heap's picture: a place of whole numbers for each object (by its number in the order of making) -/
abbrev SG : Type := Nat → Nat → Int
def up (f : Nat → Int) (k : Nat) (x : Int) : Nat → Int := fun b => if b = k then x else f b
def ug (σ : SG) (i k : Nat) (x : Int) : SG := fun a b => if a = i then (if b = k then x else σ a b) else σ a b
theorem ug_self (σ : SG) (i k : Nat) (x : Int) : ug σ i k x i = up (σ i) k x := by
  funext b
  simp [ug, up]
theorem ug_ne (σ : SG) {i j : Nat} (h : j ≠ i) (k : Nat) (x : Int) : ug σ i k x j = σ j := by
  funext b
  simp [ug, h]
theorem ug_R {σ : SG} (h : ∀ i j, inR (σ i j)) {x : Int} (hx : inR x) (i k : Nat) : ∀ a b, inR (ug σ i k x a b) := by
  intro a b
  unfold ug
  split
  · split
    · exact hx
    · exact h a b
  · exact h a b

def KT : List Nat := [9, 7, 4, 20, 23, 4, 20, 4, 20, 4, 20, 4, 20, 4, 20, 4, 20, 24, 4, 20, 4, 20, 4, 20, 4, 20, 4, 20, 4, 20, 8, 20, 20, 2, 4, 20, 4, 20, 4, 20, 4, 20, 4, 20, 4, 20, 4, 20, 6, 4, 20, 4, 20, 4, 20, 4, 20, 4, 20, 4, 20, 4, 20, 4, 20, 26, 27, 4, 20, 4, 20, 4, 20, 4, 20, 4, 20, 4, 20, 4, 20, 4, 20, 4, 20, 4, 20, 4, 20, 4, 20, 0, 4, 20, 4, 20, 4, 20, 4, 20, 1, 23, 4, 20, 4, 20, 4, 20, 4, 20, 4, 20, 4, 20, 4, 20, 4, 20, 4, 20, 4, 20, 4, 20, 5, 26, 27, 4, 20, 4, 20, 4, 20, 4, 20, 4, 20, 4, 20, 4, 20, 4, 20, 4, 20, 4, 20, 4, 20, 4, 20, 21, 21, 4, 20, 7, 4, 20, 23, 4, 20, 4, 20, 4, 20, 4, 20, 4, 20, 4, 20, 24, 4, 20, 4, 20, 4, 20, 4, 20, 4, 20, 4, 20, 3, 25, 7, 4, 20, 23, 4, 20, 4, 20, 4, 20, 4, 20, 4, 20, 4, 20, 24, 4, 20, 4, 20, 4, 20, 4, 20, 4, 20, 4, 20, 7, 4, 20, 23, 4, 20, 4, 20, 4, 20, 4, 20, 4, 20, 4, 20, 24, 4, 20, 4, 20, 4, 20, 4, 20, 4, 20, 4, 20, 7, 4, 20, 23, 4, 20, 4, 20, 4, 20, 4, 20, 4, 20, 4, 20, 24, 4, 20, 4, 20, 4, 20, 4, 20, 4, 20, 4, 20, 7, 4, 20, 23, 4, 20, 4, 20, 4, 20, 4, 20, 4, 20, 4, 20, 24, 4, 20, 4, 20, 4, 20, 4, 20, 4, 20, 4, 20, 4, 20, 10, 20, 20, 20, 20, 20, 20, 22, 20, 20, 20, 20]
def LT : List Nat := [0, 0, 0, 13, 6, 0, 13, 0, 13, 0, 13, 0, 13, 0, 13, 0, 13, 6, 0, 13, 0, 13, 0, 13, 0, 13, 0, 13, 0, 13, 0, 60, 7, 0, 0, 13, 0, 13, 0, 13, 0, 13, 0, 13, 0, 13, 0, 13, 0, 0, 13, 0, 13, 0, 13, 0, 13, 0, 13, 0, 13, 0, 13, 0, 13, 6, 6, 0, 13, 0, 13, 0, 13, 0, 13, 0, 13, 0, 13, 0, 13, 0, 13, 0, 13, 0, 13, 0, 13, 0, 13, 0, 0, 13, 0, 13, 0, 13, 0, 13, 0, 7, 0, 13, 0, 13, 0, 13, 0, 13, 0, 13, 0, 13, 0, 13, 0, 13, 0, 13, 0, 13, 0, 13, 0, 6, 6, 0, 13, 0, 13, 0, 13, 0, 13, 0, 13, 0, 13, 0, 13, 0, 13, 0, 13, 0, 13, 0, 13, 0, 13, 6, 6, 0, 13, 0, 0, 13, 6, 0, 13, 0, 13, 0, 13, 0, 13, 0, 13, 0, 13, 6, 0, 13, 0, 13, 0, 13, 0, 13, 0, 13, 0, 13, 0, 4, 0, 0, 13, 6, 0, 13, 0, 13, 0, 13, 0, 13, 0, 13, 0, 13, 6, 0, 13, 0, 13, 0, 13, 0, 13, 0, 13, 0, 13, 0, 0, 13, 6, 0, 13, 0, 13, 0, 13, 0, 13, 0, 13, 0, 13, 6, 0, 13, 0, 13, 0, 13, 0, 13, 0, 13, 0, 13, 0, 0, 13, 6, 0, 13, 0, 13, 0, 13, 0, 13, 0, 13, 0, 13, 6, 0, 13, 0, 13, 0, 13, 0, 13, 0, 13, 0, 13, 0, 0, 13, 6, 0, 13, 0, 13, 0, 13, 0, 13, 0, 13, 0, 13, 6, 0, 13, 0, 13, 0, 13, 0, 13, 0, 13, 0, 13, 0, 13, 0, 87, 348, 87, 840, 14, 87, 60, 7, 6, 6, 7]
def flds (B : Nat) (f : Nat → Int) (i : Nat) : Nat → List Value
  | 0 => [.ref (B + 1), .ref (B + 33), .ref (B + 92), .ref (B + 94), .ref (B + 96), .ref (B + 98)]
  | 1 => [.ref (B + 1), .ref (B + 33), .ref (B + 48), .ref (B + 101), .ref (B + 116), .ref (B + 118), .ref (B + 120), .ref (B + 122)]
  | 2 => [.ref (B + 1), .ref (B + 34), .ref (B + 36), .ref (B + 38), .ref (B + 40), .ref (B + 42), .ref (B + 44), .ref (B + 46)]
  | 3 => [.ref (B + 185), .int (iI (f 1)), .int (iI (f 2))]
  | 4 => [.ref (B + (i + 1)), .int (iI (f 1))]
  | 5 => [.ref (B + 1), .ref (B + 30), .ref (B + 48), .ref (B + 91), .ref (B + 125), .ref (B + 126), .ref (B + 151), .ref (B + 152), .ref (B + 153), .int (iI (f 9))]
  | 6 => [.ref (B + 1), .ref (B + 33), .ref (B + 49), .ref (B + 51), .ref (B + 53), .ref (B + 55), .ref (B + 57), .ref (B + 59), .ref (B + 61), .ref (B + 63), .ref (B + 65), .ref (B + 66)]
  | 7 => [.int (iI (f 0)), .ref (B + (i + 1)), .ref (B + (i + 3)), .ref (B + (i + 16)), .int (iI (f 4))]
  | 8 => [.ref (B + 31), .int (iI (f 1)), .ref (B + 32), .int (iI (f 3))]
  | 9 => [.ref (B + 1), .ref (B + 155), .int (iI (f 2)), .ref (B + 184), .ref (B + 30), .ref (B + 33), .ref (B + 48), .ref (B + 100), .ref (B + 91), .ref (B + 124), .ref (B + 302)]
  | 10 => [.ref (B + 305), .ref (B + 306), .int (iI (f 2)), .ref (B + 307), .int (iI (f 4)), .ref (B + 308), .ref (B + 309), .ref (B + 310), .int (iI (f 8)), .ref (B + 311), .int (iI (f 10)), .ref (B + 312), .ref (B + 313), .ref (B + 314), .ref (B + 315)]
  | _ => []

def celK (aC : Nat → ClassId) (B : Nat) (f : Nat → Int) (i : Nat) : Nat → va_E
  | 20 => .inl (aC 0, (LT.getD i 0, .inl (fun j => iI (f j))))
  | 21 => .inl (aC 1, (LT.getD i 0, .inl (fun j => iI (f j))))
  | 22 => .inl (aC 2, (LT.getD i 0, .inl (fun j => iI (f j))))
  | 23 => .inl (aC 3, (LT.getD i 0, .inr (.inr (.inr (.inr (fun j => some (B + (i + 1 + 2 * j))))))))
  | 24 => .inl (aC 3, (LT.getD i 0, .inr (.inr (.inr (.inr (fun j => some (B + (f j).toNat)))))))
  | 25 => .inl (aC 4, (LT.getD i 0, .inr (.inr (.inr (.inr (fun j => some (B + (i + 1 + 29 * j))))))))
  | 26 => .inl (aC 3, (LT.getD i 0, .inr (.inr (.inr (.inr (fun j => some (B + (i + 2 + 4 * j))))))))
  | 27 => .inl (aC 3, (LT.getD i 0, .inr (.inr (.inr (.inr (fun j => some (B + (i + 3 + 4 * j))))))))
  | k => .inr (k, flds B f i k)
def cel (aC : Nat → ClassId) (B : Nat) (f : Nat → Int) (i : Nat) : va_E := celK aC B f i (KT.getD i 99)
theorem cel_of {aC : Nat → ClassId} {B : Nat} {f : Nat → Int} {i k : Nat} (h : KT.getD i 99 = k) : cel aC B f i = celK aC B f i k := by
  unfold cel
  rw [h]
def isP (t : Nat) : Prop := KT.getD t 99 = 4
def PO (lo hi t : Nat) : Prop := KT.getD t 99 = 4 ∧ lo ≤ t ∧ t + 1 < hi
def SO (lo hi t : Nat) : Prop := KT.getD t 99 = 7 ∧ lo ≤ t ∧ t + 28 < hi
theorem PO.lo {lo hi t : Nat} (h : PO lo hi t) : lo ≤ t := h.2.1
theorem PO.hi {lo hi t : Nat} (h : PO lo hi t) : t < hi := by have := h.2.2; omega
theorem SO.lo {lo hi t : Nat} (h : SO lo hi t) : lo ≤ t := h.2.1
theorem SO.hi {lo hi t : Nat} (h : SO lo hi t) : t < hi := by have := h.2.2; omega
theorem KT_len : KT.length = 316 := by decide +kernel
theorem KT_lt {t k : Nat} (h : KT.getD t 99 = k) (hk : k ≠ 99) : t < 316 := by
  rcases Nat.lt_or_ge t 316 with q | q
  · exact q
  · rw [List.getD, List.getElem?_eq_none (by rw [KT_len]; exact q)] at h
    exact absurd h.symm hk
theorem KT_all {P : Nat → Prop} [DecidablePred P] (h : (List.range 316).all (fun i => decide (P i)) = true) {t : Nat} (ht : t < 316) : P t :=
  of_decide_eq_true (List.all_eq_true.mp h t (List.mem_range.mpr ht))
theorem isP_arr {t : Nat} (h : KT.getD t 99 = 4) : KT.getD (t + 1) 99 = 20 ∧ LT.getD (t + 1) 0 = 13 :=
  KT_all (P := fun t => KT.getD t 99 = 4 → KT.getD (t + 1) 99 = 20 ∧ LT.getD (t + 1) 0 = 13) (by decide +kernel) (KT_lt h (by decide)) h
theorem isS_all {t : Nat} (h : KT.getD t 99 = 7) : (KT.getD (t + 1) 99 = 4 ∧ KT.getD (t + 3) 99 = 23 ∧ LT.getD (t + 3) 0 = 6 ∧ KT.getD (t + 16) 99 = 24 ∧ LT.getD (t + 16) 0 = 6) ∧ t + 28 < 316 ∧ (∀ k, k < 6 → KT.getD (t + 3 + 1 + 2 * k) 99 = 4) ∧ (∀ k, k < 6 → KT.getD (t + 17 + 2 * k) 99 = 4) :=
  KT_all (P := fun t => KT.getD t 99 = 7 → (KT.getD (t + 1) 99 = 4 ∧ KT.getD (t + 3) 99 = 23 ∧ LT.getD (t + 3) 0 = 6 ∧ KT.getD (t + 16) 99 = 24 ∧ LT.getD (t + 16) 0 = 6) ∧ t + 28 < 316 ∧ (∀ k, k < 6 → KT.getD (t + 3 + 1 + 2 * k) 99 = 4) ∧ (∀ k, k < 6 → KT.getD (t + 17 + 2 * k) 99 = 4)) (by decide +kernel) (KT_lt h (by decide)) h
/-- a branch's polynomial is one of its state's own six -/
def BO (s t : Nat) : Prop := ∃ k, k < 6 ∧ t = s + 17 + 2 * k
theorem PO_mod {lo hi s : Nat} (h : SO lo hi s) : PO lo hi (s + 1) := ⟨(isS_all h.1).1.1, by have := h.2.1; omega, by have := h.2.2; omega⟩
theorem PO_reg {lo hi s : Nat} (h : SO lo hi s) {k : Int} (h0 : 0 ≤ k) (h1 : k < 6) : PO lo hi (s + 3 + 1 + 2 * k.toNat) := ⟨(isS_all h.1).2.2.1 _ (by omega), by have := h.2.1; omega, by have := h.2.2; omega⟩
theorem PO_br {lo hi s t : Nat} (h : SO lo hi s) (hb : BO s t) : PO lo hi t := by
  obtain ⟨k, hk, rfl⟩ := hb
  exact ⟨(isS_all h.1).2.2.2 _ hk, by have := h.2.1; omega, by have := h.2.2; omega⟩
theorem PO_full {lo hi t : Nat} (hlo : lo ≤ 0) (hhi : 304 ≤ hi) (h : KT.getD t 99 = 4) : PO lo hi t := by
  refine ⟨h, by omega, ?_⟩
  have h1 : t + 1 < 304 := KT_all (P := fun t => KT.getD t 99 = 4 → t + 1 < 304) (by decide +kernel) (KT_lt h (by decide)) h
  omega
theorem SO_full {lo hi t : Nat} (hlo : lo ≤ 0) (hhi : 304 ≤ hi) (h : KT.getD t 99 = 7) : SO lo hi t := by
  refine ⟨h, by omega, ?_⟩
  have h1 : t + 28 < 304 := KT_all (P := fun t => KT.getD t 99 = 7 → t + 28 < 304) (by decide +kernel) (KT_lt h (by decide)) h
  omega
def Wd (D : va_G) (aC : Nat → ClassId) (B lo hi : Nat) (σ : SG) (H : Heap) : Prop := (∀ i j, inR (σ i j)) ∧ ∀ i, lo ≤ i → i < hi → va_at D vwCl (B + i, cel aC B (σ i) i) H
def tysA (aC : Nat → ClassId) : List (ClassId × FieldType) := [(aC 0, .int), (aC 1, .boolean), (aC 2, .char), (aC 3, .object "SplitTowers$Poly"), (aC 4, .object "SplitTowers$State")]
def AB (B lo hi : Nat) : Nat → Prop := fun q => B + lo ≤ q ∧ q < B + hi
def Cx (p : Program) (s : State) (m : MethodId) (args : Array Value) (meth : Method) (c : Code) (cc : ByteArray) (nL : Nat) (own : String) (ret : Option FieldType) (D : va_G) (aC : Nat → ClassId) : Prop :=
  p.tables.exec = Jvm.exec ∧ c.code = cc ∧ c.maxLocals = nL ∧ s.vm.findClass own = some m.cls ∧ (∀ w ∈ WS, w.before args s = true) ∧ va_K D vwCl (tysA aC) s ∧ meth.locks = false ∧ meth.sig.returnType = ret
/-- from every heap that the picture tells, at this place, the end comes -/
def V (p : Program) (l : Launch) (e : Env) (R : Room) (s : State) (m : MethodId) (args : Array Value) (below : List Frame) (meth : Method) (c : Code) (D : va_G) (aC : Nat → ClassId) (B lo hi nL : Nat) (Q : State → Prop) (σ : SG) (pc : Nat) (lv : List (Nat × Value)) (st : List Value) : Prop :=
  ∀ (H : Heap) (locs : List Loc) (ls : Array Slot), Wd D aC B lo hi σ H → va_S (AB B lo hi) s.heap H locs → lv_has ls nL lv → W p l e R s m args below meth c H locs 0 0 Q (F0 m pc ls st)
def WP (D : va_G) (aC : Nat → ClassId) (B lo hi : Nat) (σ : SG) (U : State) : Prop := Wd D aC B lo hi σ U.heap ∧ va_K D vwCl (tysA aC) U
def QI (D : va_G) (aC : Nat → ClassId) (B lo hi : Nat) (Qc : Int → SG → Prop) : Array Value → State → Outcome → State → Prop := va_Qi (fun r σ => ∃ z, r = iI z ∧ inR z ∧ Qc z σ) (fun σ t => WP D aC B lo hi σ t) (AB B lo hi)
def QV (D : va_G) (aC : Nat → ClassId) (B lo hi : Nat) (Qc : SG → Prop) : Array Value → State → Outcome → State → Prop := va_Qv Qc (fun σ t => WP D aC B lo hi σ t) (AB B lo hi)
/-! loops and joins of the printed conditions -/
def Lp0 (K : ((SG → Prop)) → SG → Prop) (σ : SG) : Prop := ∃ I : Nat → SG → Prop, (∃ n, I n σ) ∧ ∀ n σ, I n σ → K (fun σ => ∃ m, m < n ∧ I m σ) σ
def Lp1 {A : Type} (K : ((A → SG → Prop)) → A → SG → Prop) (a : A) (σ : SG) : Prop := ∃ I : Nat → A → SG → Prop, (∃ n, I n a σ) ∧ ∀ n a σ, I n a σ → K (fun a σ => ∃ m, m < n ∧ I m a σ) a σ
def Lp2 {A A2 : Type} (K : ((A → A2 → SG → Prop)) → A → A2 → SG → Prop) (a : A) (a2 : A2) (σ : SG) : Prop := ∃ I : Nat → A → A2 → SG → Prop, (∃ n, I n a a2 σ) ∧ ∀ n a a2 σ, I n a a2 σ → K (fun a a2 σ => ∃ m, m < n ∧ I m a a2 σ) a a2 σ
def Lp3 {A A2 A3 : Type} (K : ((A → A2 → A3 → SG → Prop)) → A → A2 → A3 → SG → Prop) (a : A) (a2 : A2) (a3 : A3) (σ : SG) : Prop := ∃ I : Nat → A → A2 → A3 → SG → Prop, (∃ n, I n a a2 a3 σ) ∧ ∀ n a a2 a3 σ, I n a a2 a3 σ → K (fun a a2 a3 σ => ∃ m, m < n ∧ I m a a2 a3 σ) a a2 a3 σ
def Lp4 {A A2 A3 A4 : Type} (K : ((A → A2 → A3 → A4 → SG → Prop)) → A → A2 → A3 → A4 → SG → Prop) (a : A) (a2 : A2) (a3 : A3) (a4 : A4) (σ : SG) : Prop := ∃ I : Nat → A → A2 → A3 → A4 → SG → Prop, (∃ n, I n a a2 a3 a4 σ) ∧ ∀ n a a2 a3 a4 σ, I n a a2 a3 a4 σ → K (fun a a2 a3 a4 σ => ∃ m, m < n ∧ I m a a2 a3 a4 σ) a a2 a3 a4 σ
def Lp5 {A A2 A3 A4 A5 : Type} (K : ((A → A2 → A3 → A4 → A5 → SG → Prop)) → A → A2 → A3 → A4 → A5 → SG → Prop) (a : A) (a2 : A2) (a3 : A3) (a4 : A4) (a5 : A5) (σ : SG) : Prop := ∃ I : Nat → A → A2 → A3 → A4 → A5 → SG → Prop, (∃ n, I n a a2 a3 a4 a5 σ) ∧ ∀ n a a2 a3 a4 a5 σ, I n a a2 a3 a4 a5 σ → K (fun a a2 a3 a4 a5 σ => ∃ m, m < n ∧ I m a a2 a3 a4 a5 σ) a a2 a3 a4 a5 σ
def Jn0 (K : SG → Prop) (F : (SG → Prop) → Prop) : Prop := ∃ J : SG → Prop, (∀ σ, J σ → K σ) ∧ F J
def Jn1 {A : Type} (K : A → SG → Prop) (F : (A → SG → Prop) → Prop) : Prop := ∃ J : A → SG → Prop, (∀ a σ, J a σ → K a σ) ∧ F J
def Jn2 {A A2 : Type} (K : A → A2 → SG → Prop) (F : (A → A2 → SG → Prop) → Prop) : Prop := ∃ J : A → A2 → SG → Prop, (∀ a a2 σ, J a a2 σ → K a a2 σ) ∧ F J
def Jn3 {A A2 A3 : Type} (K : A → A2 → A3 → SG → Prop) (F : (A → A2 → A3 → SG → Prop) → Prop) : Prop := ∃ J : A → A2 → A3 → SG → Prop, (∀ a a2 a3 σ, J a a2 a3 σ → K a a2 a3 σ) ∧ F J
section VROWS
variable {p : Program} {l : Launch} {e : Env} {R : Room} {s : State} {m : MethodId} {args : Array Value} {below : List Frame} {meth : Method} {c : Code} {Q : State → Prop}
variable {D : va_G} {aC : Nat → ClassId} {B lo hi nL : Nat} {cc : ByteArray} {own : String} {ret : Option FieldType}
variable {σ : SG} {pc : Nat} {lv lv' : List (Nat × Value)} {st : List Value}
theorem v_iconst (C : Cx p s m args meth c cc nL own ret D aC) {n : Int} (hdg : decode cc pc = .ok (.iconst n, 1)) (kk : V p l e R s m args below meth c D aC B lo hi nL Q σ (pc + 1) lv (.int (iI n) :: st)) : V p l e R s m args below meth c D aC B lo hi nL Q σ pc lv st :=
  fun H locs ls hW hS hl => lv_iconst C.1 C.2.1 hdg rfl (kk H locs ls hW hS hl)
theorem v_bipush (C : Cx p s m args meth c cc nL own ret D aC) {n : Int} (hdg : decode cc pc = .ok (.bipush n, 2)) (hn : (Int8.ofInt n).toInt32 = iI n) (kk : V p l e R s m args below meth c D aC B lo hi nL Q σ (pc + 2) lv (.int (iI n) :: st)) : V p l e R s m args below meth c D aC B lo hi nL Q σ pc lv st :=
  fun H locs ls hW hS hl => lv_bipush C.1 C.2.1 hdg hn (kk H locs ls hW hS hl)
theorem v_sipush (C : Cx p s m args meth c cc nL own ret D aC) {n : Int} (hdg : decode cc pc = .ok (.sipush n, 3)) (hn : (Int16.ofInt n).toInt32 = iI n) (kk : V p l e R s m args below meth c D aC B lo hi nL Q σ (pc + 3) lv (.int (iI n) :: st)) : V p l e R s m args below meth c D aC B lo hi nL Q σ pc lv st :=
  fun H locs ls hW hS hl => lv_sipush C.1 C.2.1 hdg hn (kk H locs ls hW hS hl)
theorem v_ldc (C : Cx p s m args meth c cc nL own ret D aC) {idx : Nat} {v : Int32} (n : Int) (hn : v = iI n) (hc : Cond.constant own idx v ∈ WS) (hdg : decode cc pc = .ok (.ldc idx, 2)) (kk : V p l e R s m args below meth c D aC B lo hi nL Q σ (pc + 2) lv (.int (iI n) :: st)) : V p l e R s m args below meth c D aC B lo hi nL Q σ pc lv st := by
  subst hn
  exact fun H locs ls hW hS hl => lv_ldc C.1 C.2.1 C.2.2.2.1 (C.2.2.2.2.1 _ hc) hdg (kk H locs ls hW hS hl)
theorem v_iload_n (C : Cx p s m args meth c cc nL own ret D aC) {k : Fin 4} {i : Nat} {x : Int32} (j : Nat) (hdg : decode cc pc = .ok (.iload_n k, 1)) (hi' : (k : Nat) = i) (hj : lv[j]? = some (i, .int x)) (kk : V p l e R s m args below meth c D aC B lo hi nL Q σ (pc + 1) lv (.int x :: st)) : V p l e R s m args below meth c D aC B lo hi nL Q σ pc lv st :=
  fun H locs ls hW hS hl => lv_iload_n C.1 C.2.1 hdg hi' (lv_at hl j hj) (kk H locs ls hW hS hl)
theorem v_iload (C : Cx p s m args meth c cc nL own ret D aC) {i : Nat} {x : Int32} (j : Nat) (hdg : decode cc pc = .ok (.iload i, 2)) (hj : lv[j]? = some (i, .int x)) (kk : V p l e R s m args below meth c D aC B lo hi nL Q σ (pc + 2) lv (.int x :: st)) : V p l e R s m args below meth c D aC B lo hi nL Q σ pc lv st :=
  fun H locs ls hW hS hl => lv_iload C.1 C.2.1 hdg (lv_at hl j hj) (kk H locs ls hW hS hl)
theorem v_aload_n (C : Cx p s m args meth c cc nL own ret D aC) {k : Fin 4} {i x : Nat} (j : Nat) (hdg : decode cc pc = .ok (.aload_n k, 1)) (hi' : (k : Nat) = i) (hj : lv[j]? = some (i, .ref x)) (kk : V p l e R s m args below meth c D aC B lo hi nL Q σ (pc + 1) lv (.ref x :: st)) : V p l e R s m args below meth c D aC B lo hi nL Q σ pc lv st :=
  fun H locs ls hW hS hl => lv_aload_n C.1 C.2.1 hdg hi' (lv_at hl j hj) (kk H locs ls hW hS hl)
theorem v_aload (C : Cx p s m args meth c cc nL own ret D aC) {i x : Nat} (j : Nat) (hdg : decode cc pc = .ok (.aload i, 2)) (hj : lv[j]? = some (i, .ref x)) (kk : V p l e R s m args below meth c D aC B lo hi nL Q σ (pc + 2) lv (.ref x :: st)) : V p l e R s m args below meth c D aC B lo hi nL Q σ pc lv st :=
  fun H locs ls hW hS hl => lv_aload C.1 C.2.1 hdg (lv_at hl j hj) (kk H locs ls hW hS hl)
theorem v_istore_n (C : Cx p s m args meth c cc nL own ret D aC) {k : Fin 4} {i : Nat} {x : Int32} (hdg : decode cc pc = .ok (.istore_n k, 1)) (hi' : (k : Nat) = i) (hn : i < nL) (hl' : (i, Value.int x) :: lv.filter (fun q => !(q.1 == i) && !(q.1 + 1 == i && q.2.category == 2)) = lv') (kk : V p l e R s m args below meth c D aC B lo hi nL Q σ (pc + 1) lv' st) : V p l e R s m args below meth c D aC B lo hi nL Q σ pc lv (.int x :: st) :=
  fun H locs ls hW hS hl => lv_istore_n C.1 C.2.1 hdg hi' hl hn hl' (fun ls hl => kk H locs ls hW hS hl)
theorem v_istore (C : Cx p s m args meth c cc nL own ret D aC) {i : Nat} {x : Int32} (hdg : decode cc pc = .ok (.istore i, 2)) (hn : i < nL) (hl' : (i, Value.int x) :: lv.filter (fun q => !(q.1 == i) && !(q.1 + 1 == i && q.2.category == 2)) = lv') (kk : V p l e R s m args below meth c D aC B lo hi nL Q σ (pc + 2) lv' st) : V p l e R s m args below meth c D aC B lo hi nL Q σ pc lv (.int x :: st) :=
  fun H locs ls hW hS hl => lv_istore C.1 C.2.1 hdg hl hn hl' (fun ls hl => kk H locs ls hW hS hl)
theorem v_astore_n (C : Cx p s m args meth c cc nL own ret D aC) {k : Fin 4} {i x : Nat} (hdg : decode cc pc = .ok (.astore_n k, 1)) (hi' : (k : Nat) = i) (hn : i < nL) (hl' : (i, Value.ref x) :: lv.filter (fun q => !(q.1 == i) && !(q.1 + 1 == i && q.2.category == 2)) = lv') (kk : V p l e R s m args below meth c D aC B lo hi nL Q σ (pc + 1) lv' st) : V p l e R s m args below meth c D aC B lo hi nL Q σ pc lv (.ref x :: st) :=
  fun H locs ls hW hS hl => lv_astore_n C.1 C.2.1 hdg hi' hl hn hl' (fun ls hl => kk H locs ls hW hS hl)
theorem v_astore (C : Cx p s m args meth c cc nL own ret D aC) {i x : Nat} (hdg : decode cc pc = .ok (.astore i, 2)) (hn : i < nL) (hl' : (i, Value.ref x) :: lv.filter (fun q => !(q.1 == i) && !(q.1 + 1 == i && q.2.category == 2)) = lv') (kk : V p l e R s m args below meth c D aC B lo hi nL Q σ (pc + 2) lv' st) : V p l e R s m args below meth c D aC B lo hi nL Q σ pc lv (.ref x :: st) :=
  fun H locs ls hW hS hl => lv_astore C.1 C.2.1 hdg hl hn hl' (fun ls hl => kk H locs ls hW hS hl)
theorem v_iinc (C : Cx p s m args meth c cc nL own ret D aC) {i : Nat} {n x : Int} (j : Nat) (hdg : decode cc pc = .ok (.iinc i n, 3)) (hj : lv[j]? = some (i, .int (iI x))) (hn : i < nL) (hl' : (i, Value.int (iI (x + n))) :: lv.filter (fun q => !(q.1 == i) && !(q.1 + 1 == i && q.2.category == 2)) = lv') (kk : V p l e R s m args below meth c D aC B lo hi nL Q σ (pc + 3) lv' st) : V p l e R s m args below meth c D aC B lo hi nL Q σ pc lv st :=
  fun H locs ls hW hS hl => lv_iinc C.1 C.2.1 hdg hl hj (iI_add x n) hn hl' (fun ls hl => kk H locs ls hW hS hl)
theorem v_sub (ks : List Nat) (h : lv_pick lv ks = lv') (kk : V p l e R s m args below meth c D aC B lo hi nL Q σ pc lv' st) : V p l e R s m args below meth c D aC B lo hi nL Q σ pc lv st :=
  fun H locs ls hW hS hl => kk H locs ls hW hS (lv_sub hl ks h)
theorem v_iadd (C : Cx p s m args meth c cc nL own ret D aC) {a b : Int} (hdg : decode cc pc = .ok (.iadd, 1)) (kk : V p l e R s m args below meth c D aC B lo hi nL Q σ (pc + 1) lv (.int (iI (a + b)) :: st)) : V p l e R s m args below meth c D aC B lo hi nL Q σ pc lv (.int (iI b) :: .int (iI a) :: st) :=
  fun H locs ls hW hS hl => lv_iadd C.1 C.2.1 hdg (by rw [iI_add]; exact kk H locs ls hW hS hl)
theorem v_isub (C : Cx p s m args meth c cc nL own ret D aC) {a b : Int} (hdg : decode cc pc = .ok (.isub, 1)) (kk : V p l e R s m args below meth c D aC B lo hi nL Q σ (pc + 1) lv (.int (iI (a - b)) :: st)) : V p l e R s m args below meth c D aC B lo hi nL Q σ pc lv (.int (iI b) :: .int (iI a) :: st) :=
  fun H locs ls hW hS hl => lv_isub C.1 C.2.1 hdg (by rw [iI_sub]; exact kk H locs ls hW hS hl)
theorem v_imul (C : Cx p s m args meth c cc nL own ret D aC) {a b : Int} (hdg : decode cc pc = .ok (.imul, 1)) (kk : V p l e R s m args below meth c D aC B lo hi nL Q σ (pc + 1) lv (.int (iI (a * b)) :: st)) : V p l e R s m args below meth c D aC B lo hi nL Q σ pc lv (.int (iI b) :: .int (iI a) :: st) :=
  fun H locs ls hW hS hl => lv_imul C.1 C.2.1 hdg (by rw [iI_mul]; exact kk H locs ls hW hS hl)
theorem v_ineg (C : Cx p s m args meth c cc nL own ret D aC) {a : Int} (hdg : decode cc pc = .ok (.ineg, 1)) (kk : V p l e R s m args below meth c D aC B lo hi nL Q σ (pc + 1) lv (.int (iI (-a)) :: st)) : V p l e R s m args below meth c D aC B lo hi nL Q σ pc lv (.int (iI a) :: st) :=
  fun H locs ls hW hS hl => lv_ineg C.1 C.2.1 hdg (by rw [iI_neg]; exact kk H locs ls hW hS hl)
theorem ne0_iI {b : Int} (hb : inR b) (h : b ≠ 0) : ¬ iI b = 0 := fun q => h ((iI_eq hb inR0).mp q)
theorem v_irem (C : Cx p s m args meth c cc nL own ret D aC) {a b : Int} (ha : inR a) (hb : inR b) (h0 : b ≠ 0) (hdg : decode cc pc = .ok (.irem, 1)) (kk : V p l e R s m args below meth c D aC B lo hi nL Q σ (pc + 1) lv (.int (iI (a.tmod b)) :: st)) : V p l e R s m args below meth c D aC B lo hi nL Q σ pc lv (.int (iI b) :: .int (iI a) :: st) :=
  fun H locs ls hW hS hl => lv_irem C.1 C.2.1 hdg (ne0_iI hb h0) (by rw [iI_rem ha hb]; exact kk H locs ls hW hS hl)
theorem v_idiv (C : Cx p s m args meth c cc nL own ret D aC) {a b : Int} (ha : inR a) (hb : inR b) (h0 : b ≠ 0) (hdg : decode cc pc = .ok (.idiv, 1)) (kk : V p l e R s m args below meth c D aC B lo hi nL Q σ (pc + 1) lv (.int (iI (a.tdiv b)) :: st)) : V p l e R s m args below meth c D aC B lo hi nL Q σ pc lv (.int (iI b) :: .int (iI a) :: st) :=
  fun H locs ls hW hS hl => lv_idiv C.1 C.2.1 hdg (ne0_iI hb h0) (by rw [iI_div ha hb]; exact kk H locs ls hW hS hl)
theorem v_iand (C : Cx p s m args meth c cc nL own ret D aC) {a b : Int} (hdg : decode cc pc = .ok (.iand, 1)) (kk : V p l e R s m args below meth c D aC B lo hi nL Q σ (pc + 1) lv (.int (iI (iand a b)) :: st)) : V p l e R s m args below meth c D aC B lo hi nL Q σ pc lv (.int (iI b) :: .int (iI a) :: st) :=
  fun H locs ls hW hS hl => lv_iand C.1 C.2.1 hdg (by have h := kk H locs ls hW hS hl; unfold iand at h; rw [iI_of] at h; exact h)
theorem v_ior (C : Cx p s m args meth c cc nL own ret D aC) {a b : Int} (hdg : decode cc pc = .ok (.ior, 1)) (kk : V p l e R s m args below meth c D aC B lo hi nL Q σ (pc + 1) lv (.int (iI (ior a b)) :: st)) : V p l e R s m args below meth c D aC B lo hi nL Q σ pc lv (.int (iI b) :: .int (iI a) :: st) :=
  fun H locs ls hW hS hl => lv_ior C.1 C.2.1 hdg (by have h := kk H locs ls hW hS hl; unfold ior at h; rw [iI_of] at h; exact h)
theorem v_ishr (C : Cx p s m args meth c cc nL own ret D aC) {a b : Int} (hdg : decode cc pc = .ok (.ishr, 1)) (kk : V p l e R s m args below meth c D aC B lo hi nL Q σ (pc + 1) lv (.int (iI (ishr a b)) :: st)) : V p l e R s m args below meth c D aC B lo hi nL Q σ pc lv (.int (iI b) :: .int (iI a) :: st) :=
  fun H locs ls hW hS hl => lv_ishr C.1 C.2.1 hdg (by have h := kk H locs ls hW hS hl; unfold ishr at h; rw [iI_of] at h; exact h)
theorem v_dup (C : Cx p s m args meth c cc nL own ret D aC) {v : Value} (hv : v.category = 1) (hdg : decode cc pc = .ok (.dup, 1)) (kk : V p l e R s m args below meth c D aC B lo hi nL Q σ (pc + 1) lv (v :: v :: st)) : V p l e R s m args below meth c D aC B lo hi nL Q σ pc lv (v :: st) :=
  fun H locs ls hW hS hl => lv_dup C.1 C.2.1 hdg hv (kk H locs ls hW hS hl)
theorem v_dup2 (C : Cx p s m args meth c cc nL own ret D aC) {v w : Value} (hv : v.category = 1) (hw : w.category = 1) (hdg : decode cc pc = .ok (.dup2, 1)) (kk : V p l e R s m args below meth c D aC B lo hi nL Q σ (pc + 1) lv (v :: w :: v :: w :: st)) : V p l e R s m args below meth c D aC B lo hi nL Q σ pc lv (v :: w :: st) :=
  fun H locs ls hW hS hl => lv_dup2_11 C.1 C.2.1 hdg hv hw (kk H locs ls hW hS hl)
theorem v_pop (C : Cx p s m args meth c cc nL own ret D aC) {v : Value} (hv : v.category = 1) (hdg : decode cc pc = .ok (.pop, 1)) (kk : V p l e R s m args below meth c D aC B lo hi nL Q σ (pc + 1) lv st) : V p l e R s m args below meth c D aC B lo hi nL Q σ pc lv (v :: st) :=
  fun H locs ls hW hS hl => lv_pop C.1 C.2.1 hdg hv (kk H locs ls hW hS hl)
theorem v_goto (C : Cx p s m args meth c cc nL own ret D aC) {off : Int} (tgt : Nat) (hdg : decode cc pc = .ok (.goto off, 3)) (ht : (pc : Int) + off = (tgt : Int)) (kk : V p l e R s m args below meth c D aC B lo hi nL Q σ tgt lv st) : V p l e R s m args below meth c D aC B lo hi nL Q σ pc lv st :=
  fun H locs ls hW hS hl => lv_goto C.1 C.2.1 hdg ht (kk H locs ls hW hS hl)
theorem v_icmp_eq (C : Cx p s m args meth c cc nL own ret D aC) {a b : Int} (ha : inR a) (hb : inR b) {off : Int} (tgt : Nat) (hdg : decode cc pc = .ok (.if_icmp .eq off, 3)) (ht : (pc : Int) + off = (tgt : Int)) (kt : a = b → V p l e R s m args below meth c D aC B lo hi nL Q σ tgt lv st) (kf : ¬ a = b → V p l e R s m args below meth c D aC B lo hi nL Q σ (pc + 3) lv st) : V p l e R s m args below meth c D aC B lo hi nL Q σ pc lv (.int (iI b) :: .int (iI a) :: st) :=
  fun H locs ls hW hS hl => lv_icmp_eq C.1 C.2.1 hdg ht (fun h => kt ((iI_eq ha hb).mp h) H locs ls hW hS hl) (fun h => kf (fun q => h ((iI_eq ha hb).mpr q)) H locs ls hW hS hl)
theorem v_icmp_ne (C : Cx p s m args meth c cc nL own ret D aC) {a b : Int} (ha : inR a) (hb : inR b) {off : Int} (tgt : Nat) (hdg : decode cc pc = .ok (.if_icmp .ne off, 3)) (ht : (pc : Int) + off = (tgt : Int)) (kt : ¬ a = b → V p l e R s m args below meth c D aC B lo hi nL Q σ tgt lv st) (kf : a = b → V p l e R s m args below meth c D aC B lo hi nL Q σ (pc + 3) lv st) : V p l e R s m args below meth c D aC B lo hi nL Q σ pc lv (.int (iI b) :: .int (iI a) :: st) :=
  fun H locs ls hW hS hl => lv_icmp_ne C.1 C.2.1 hdg ht (fun h => kt (fun q => h ((iI_eq ha hb).mpr q)) H locs ls hW hS hl) (fun h => kf ((iI_eq ha hb).mp h) H locs ls hW hS hl)
theorem v_icmp_lt (C : Cx p s m args meth c cc nL own ret D aC) {a b : Int} (ha : inR a) (hb : inR b) {off : Int} (tgt : Nat) (hdg : decode cc pc = .ok (.if_icmp .lt off, 3)) (ht : (pc : Int) + off = (tgt : Int)) (kt : a < b → V p l e R s m args below meth c D aC B lo hi nL Q σ tgt lv st) (kf : ¬ a < b → V p l e R s m args below meth c D aC B lo hi nL Q σ (pc + 3) lv st) : V p l e R s m args below meth c D aC B lo hi nL Q σ pc lv (.int (iI b) :: .int (iI a) :: st) :=
  fun H locs ls hW hS hl => lv_icmp_lt C.1 C.2.1 hdg ht (fun h => kt ((iI_lt ha hb).mp h) H locs ls hW hS hl) (fun h => kf (fun q => h ((iI_lt ha hb).mpr q)) H locs ls hW hS hl)
theorem v_icmp_ge (C : Cx p s m args meth c cc nL own ret D aC) {a b : Int} (ha : inR a) (hb : inR b) {off : Int} (tgt : Nat) (hdg : decode cc pc = .ok (.if_icmp .ge off, 3)) (ht : (pc : Int) + off = (tgt : Int)) (kt : b ≤ a → V p l e R s m args below meth c D aC B lo hi nL Q σ tgt lv st) (kf : ¬ b ≤ a → V p l e R s m args below meth c D aC B lo hi nL Q σ (pc + 3) lv st) : V p l e R s m args below meth c D aC B lo hi nL Q σ pc lv (.int (iI b) :: .int (iI a) :: st) :=
  fun H locs ls hW hS hl => lv_icmp_ge C.1 C.2.1 hdg ht (fun h => kt ((iI_le hb ha).mp h) H locs ls hW hS hl) (fun h => kf (fun q => h ((iI_le hb ha).mpr q)) H locs ls hW hS hl)
theorem v_icmp_gt (C : Cx p s m args meth c cc nL own ret D aC) {a b : Int} (ha : inR a) (hb : inR b) {off : Int} (tgt : Nat) (hdg : decode cc pc = .ok (.if_icmp .gt off, 3)) (ht : (pc : Int) + off = (tgt : Int)) (kt : b < a → V p l e R s m args below meth c D aC B lo hi nL Q σ tgt lv st) (kf : ¬ b < a → V p l e R s m args below meth c D aC B lo hi nL Q σ (pc + 3) lv st) : V p l e R s m args below meth c D aC B lo hi nL Q σ pc lv (.int (iI b) :: .int (iI a) :: st) :=
  fun H locs ls hW hS hl => lv_icmp_gt C.1 C.2.1 hdg ht (fun h => kt ((iI_lt hb ha).mp h) H locs ls hW hS hl) (fun h => kf (fun q => h ((iI_lt hb ha).mpr q)) H locs ls hW hS hl)
theorem v_icmp_le (C : Cx p s m args meth c cc nL own ret D aC) {a b : Int} (ha : inR a) (hb : inR b) {off : Int} (tgt : Nat) (hdg : decode cc pc = .ok (.if_icmp .le off, 3)) (ht : (pc : Int) + off = (tgt : Int)) (kt : a ≤ b → V p l e R s m args below meth c D aC B lo hi nL Q σ tgt lv st) (kf : ¬ a ≤ b → V p l e R s m args below meth c D aC B lo hi nL Q σ (pc + 3) lv st) : V p l e R s m args below meth c D aC B lo hi nL Q σ pc lv (.int (iI b) :: .int (iI a) :: st) :=
  fun H locs ls hW hS hl => lv_icmp_le C.1 C.2.1 hdg ht (fun h => kt ((iI_le ha hb).mp h) H locs ls hW hS hl) (fun h => kf (fun q => h ((iI_le ha hb).mpr q)) H locs ls hW hS hl)
theorem v_if_eq (C : Cx p s m args meth c cc nL own ret D aC) {a : Int} (ha : inR a) {off : Int} (tgt : Nat) (hdg : decode cc pc = .ok (.ifCond .eq off, 3)) (ht : (pc : Int) + off = (tgt : Int)) (kt : a = 0 → V p l e R s m args below meth c D aC B lo hi nL Q σ tgt lv st) (kf : ¬ a = 0 → V p l e R s m args below meth c D aC B lo hi nL Q σ (pc + 3) lv st) : V p l e R s m args below meth c D aC B lo hi nL Q σ pc lv (.int (iI a) :: st) :=
  fun H locs ls hW hS hl => lv_if_eq C.1 C.2.1 hdg ht (fun h => kt ((iI_eq ha inR0).mp h) H locs ls hW hS hl) (fun h => kf (fun q => h ((iI_eq ha inR0).mpr q)) H locs ls hW hS hl)
theorem v_if_ne (C : Cx p s m args meth c cc nL own ret D aC) {a : Int} (ha : inR a) {off : Int} (tgt : Nat) (hdg : decode cc pc = .ok (.ifCond .ne off, 3)) (ht : (pc : Int) + off = (tgt : Int)) (kt : ¬ a = 0 → V p l e R s m args below meth c D aC B lo hi nL Q σ tgt lv st) (kf : a = 0 → V p l e R s m args below meth c D aC B lo hi nL Q σ (pc + 3) lv st) : V p l e R s m args below meth c D aC B lo hi nL Q σ pc lv (.int (iI a) :: st) :=
  fun H locs ls hW hS hl => lv_if_ne C.1 C.2.1 hdg ht (fun h => kt (fun q => h ((iI_eq ha inR0).mpr q)) H locs ls hW hS hl) (fun h => kf ((iI_eq ha inR0).mp h) H locs ls hW hS hl)
theorem v_if_lt (C : Cx p s m args meth c cc nL own ret D aC) {a : Int} (ha : inR a) {off : Int} (tgt : Nat) (hdg : decode cc pc = .ok (.ifCond .lt off, 3)) (ht : (pc : Int) + off = (tgt : Int)) (kt : a < 0 → V p l e R s m args below meth c D aC B lo hi nL Q σ tgt lv st) (kf : ¬ a < 0 → V p l e R s m args below meth c D aC B lo hi nL Q σ (pc + 3) lv st) : V p l e R s m args below meth c D aC B lo hi nL Q σ pc lv (.int (iI a) :: st) :=
  fun H locs ls hW hS hl => lv_if_lt C.1 C.2.1 hdg ht (fun h => kt ((iI_lt ha inR0).mp h) H locs ls hW hS hl) (fun h => kf (fun q => h ((iI_lt ha inR0).mpr q)) H locs ls hW hS hl)
theorem v_if_ge (C : Cx p s m args meth c cc nL own ret D aC) {a : Int} (ha : inR a) {off : Int} (tgt : Nat) (hdg : decode cc pc = .ok (.ifCond .ge off, 3)) (ht : (pc : Int) + off = (tgt : Int)) (kt : 0 ≤ a → V p l e R s m args below meth c D aC B lo hi nL Q σ tgt lv st) (kf : ¬ 0 ≤ a → V p l e R s m args below meth c D aC B lo hi nL Q σ (pc + 3) lv st) : V p l e R s m args below meth c D aC B lo hi nL Q σ pc lv (.int (iI a) :: st) :=
  fun H locs ls hW hS hl => lv_if_ge C.1 C.2.1 hdg ht (fun h => kt ((iI_le inR0 ha).mp h) H locs ls hW hS hl) (fun h => kf (fun q => h ((iI_le inR0 ha).mpr q)) H locs ls hW hS hl)
theorem v_if_gt (C : Cx p s m args meth c cc nL own ret D aC) {a : Int} (ha : inR a) {off : Int} (tgt : Nat) (hdg : decode cc pc = .ok (.ifCond .gt off, 3)) (ht : (pc : Int) + off = (tgt : Int)) (kt : 0 < a → V p l e R s m args below meth c D aC B lo hi nL Q σ tgt lv st) (kf : ¬ 0 < a → V p l e R s m args below meth c D aC B lo hi nL Q σ (pc + 3) lv st) : V p l e R s m args below meth c D aC B lo hi nL Q σ pc lv (.int (iI a) :: st) :=
  fun H locs ls hW hS hl => lv_if_gt C.1 C.2.1 hdg ht (fun h => kt ((iI_lt inR0 ha).mp h) H locs ls hW hS hl) (fun h => kf (fun q => h ((iI_lt inR0 ha).mpr q)) H locs ls hW hS hl)
theorem v_if_le (C : Cx p s m args meth c cc nL own ret D aC) {a : Int} (ha : inR a) {off : Int} (tgt : Nat) (hdg : decode cc pc = .ok (.ifCond .le off, 3)) (ht : (pc : Int) + off = (tgt : Int)) (kt : a ≤ 0 → V p l e R s m args below meth c D aC B lo hi nL Q σ tgt lv st) (kf : ¬ a ≤ 0 → V p l e R s m args below meth c D aC B lo hi nL Q σ (pc + 3) lv st) : V p l e R s m args below meth c D aC B lo hi nL Q σ pc lv (.int (iI a) :: st) :=
  fun H locs ls hW hS hl => lv_if_le C.1 C.2.1 hdg ht (fun h => kt ((iI_le ha inR0).mp h) H locs ls hW hS hl) (fun h => kf (fun q => h ((iI_le ha inR0).mpr q)) H locs ls hW hS hl)
theorem v_tabIn (C : Cx p s m args meth c cc nL own ret D aC) {a : Int} (ha : inR a) (k : Int) (hk : a = k) {dflt lo' hi' : Int} {offs : Array Int} {len : Nat} {off : Int} (tgt : Nat) (hdg : decode cc pc = .ok (.tableswitch dflt lo' hi' offs, len)) (h1 : ¬ k < lo') (h2 : ¬ hi' < k) (ho : offs[(k - lo').toNat]? = some off) (ht : (pc : Int) + off = (tgt : Int)) (kk : V p l e R s m args below meth c D aC B lo hi nL Q σ tgt lv st) : V p l e R s m args below meth c D aC B lo hi nL Q σ pc lv (.int (iI a) :: st) := by
  subst hk
  exact fun H locs ls hW hS hl => lv_tableIn C.1 C.2.1 hdg (by rw [iI_toInt ha]; exact h1) (by rw [iI_toInt ha]; exact h2) (by rw [iI_toInt ha]; exact ho) ht (kk H locs ls hW hS hl)
theorem v_tabOut (C : Cx p s m args meth c cc nL own ret D aC) {a : Int} (ha : inR a) {dflt lo' hi' : Int} {offs : Array Int} {len : Nat} (tgt : Nat) (hdg : decode cc pc = .ok (.tableswitch dflt lo' hi' offs, len)) (h : a < lo' ∨ hi' < a) (ht : (pc : Int) + dflt = (tgt : Int)) (kk : V p l e R s m args below meth c D aC B lo hi nL Q σ tgt lv st) : V p l e R s m args below meth c D aC B lo hi nL Q σ pc lv (.int (iI a) :: st) :=
  fun H locs ls hW hS hl => lv_tableOut C.1 C.2.1 hdg (by rw [iI_toInt ha]; exact h) ht (kk H locs ls hW hS hl)
theorem v_look (C : Cx p s m args meth c cc nL own ret D aC) {a : Int} (ha : inR a) {dflt : Int} {ps : Array (Int × Int)} {len : Nat} {off : Int} (tgt : Nat) (hdg : decode cc pc = .ok (.lookupswitch dflt ps, len)) (hp : (ps.toList.zip (ps.toList.drop 1)).all (fun (a, next) => a.1 < next.1) = true) (ho : Op.lookupswitch.offset ps.toList dflt a = off) (ht : (pc : Int) + off = (tgt : Int)) (kk : V p l e R s m args below meth c D aC B lo hi nL Q σ tgt lv st) : V p l e R s m args below meth c D aC B lo hi nL Q σ pc lv (.int (iI a) :: st) :=
  fun H locs ls hW hS hl => lv_lookup C.1 C.2.1 hdg hp (by rw [iI_toInt ha]; exact ho) ht (kk H locs ls hW hS hl)
/-- the picture says what range its numbers have -/
theorem v_R (kk : (∀ i j, inR (σ i j)) → V p l e R s m args below meth c D aC B lo hi nL Q σ pc lv st) : V p l e R s m args below meth c D aC B lo hi nL Q σ pc lv st :=
  fun H locs ls hW hS hl => kk hW.1 H locs ls hW hS hl
/-! cells -/
theorem va_P1 {D : va_G} {cl : List vw_C} {q : Nat × va_E} {H : Heap} (h : va_at D cl q H) : va_P D cl [q] H := by
  intro k q' hk
  match k, hk with
  | 0, hk => cases hk; exact h
  | k + 1, hk => simp at hk
theorem Wd.set {σ' : SG} {H H' : Heap} {i : Nat} (hW : Wd D aC B lo hi σ H) (hR : ∀ a b, inR (σ' a b)) (hne : ∀ j, j ≠ i → σ' j = σ j) (hi' : va_at D vwCl (B + i, cel aC B (σ' i) i) H') (oq : ∀ q, q ≠ B + i → H'[q]? = H[q]?) : Wd D aC B lo hi σ' H' := by
  refine ⟨hR, fun j h1 h2 => ?_⟩
  by_cases hj : j = i
  · subst hj; exact hi'
  · rw [hne j hj]
    exact (hW.2 j h1 h2).kept (oq _ (by show B + j ≠ B + i; omega))
theorem v_get (C : Cx p s m args meth c cc nL own ret D aC) {ref C' : String} {T : u_T} {N ci idx i : Nat} (hin : ∀ w ∈ u_ws C' T N, w ∈ WS) (hc : vwCl[ci]? = some (C', T, N)) (h1 : lo ≤ i) (h2 : i < hi) {fs : List Value} (hκ : cel aC B (σ i) i = .inr (ci, fs)) (k : Nat) (hk : k < N) (hlink : Cond.fieldLink own idx ref (T k).2.1 (T k).2.2.1 ∈ WS) (hsame : ∀ x, s.fieldFound? (T k).1 (T k).2.1 (T k).2.2.1 = some x → s.fieldFound? ref (T k).2.1 (T k).2.2.1 = some x) {v : Value} (hv : fs[k]? = some v) (hdg : decode cc pc = .ok (.getfield idx, 3)) (kk : V p l e R s m args below meth c D aC B lo hi nL Q σ (pc + 3) lv (v :: st)) : V p l e R s m args below meth c D aC B lo hi nL Q σ pc lv (.ref (B + i) :: st) := by
  intro H locs ls hW hS hl
  have hat := hW.2 i h1 h2
  rw [hκ] at hat
  exact va_get (D := D) (cl := vwCl) (tys := tysA aC) (ci := ci) (C := C') (T := T) (N := N) C.1 C.2.1 C.2.2.2.2.1 hin C.2.2.2.1 C.2.2.2.2.2.1 (va_P1 hat) 0 rfl hc k hk (C.2.2.2.2.1 _ hlink) hsame hv hdg (kk H locs ls hW hS hl)
theorem v_put (C : Cx p s m args meth c cc nL own ret D aC) {ref C' : String} {T : u_T} {N ci idx i : Nat} (hin : ∀ w ∈ u_ws C' T N, w ∈ WS) (ty0 : Nat → FieldType) (hty : ∀ k, k < N → parseFieldDescriptor (T k).2.2.1 = some (ty0 k)) (hnm : ∀ a, a < N → ∀ b, b < N → a ≠ b → (T a).2.1 ≠ (T b).2.1) (hc : vwCl[ci]? = some (C', T, N)) (h1 : lo ≤ i) (h2 : i < hi) {fs : List Value} (hκ : cel aC B (σ i) i = .inr (ci, fs)) (k : Nat) (hk : k < N) (hlink : Cond.fieldLink own idx ref (T k).2.1 (T k).2.2.1 ∈ WS) (hsame : ∀ x, s.fieldFound? (T k).1 (T k).2.1 (T k).2.2.1 = some x → s.fieldFound? ref (T k).2.1 (T k).2.2.1 = some x) (hfin : (T k).2.2.2 = false) {ty : FieldType} {x : Int} (hd : parseFieldDescriptor (T k).2.2.1 = some ty) (hn : narrow ty (.int (iI x)) = .int (iI x)) (hfit : fits ty (.int (iI x)) = true) (hlen : k < fs.length) (hxr : inR x) (hset : cel aC B (up (σ i) k x) i = .inr (ci, fs.set k (.int (iI x)))) (hdg : decode cc pc = .ok (.putfield idx, 3)) (kk : V p l e R s m args below meth c D aC B lo hi nL Q (ug σ i k x) (pc + 3) lv st) : V p l e R s m args below meth c D aC B lo hi nL Q σ pc lv (.int (iI x) :: .ref (B + i) :: st) := by
  intro H locs ls hW hS0 hl
  obtain ⟨hexec, hb, -, hown, hts, hK, -, -⟩ := C
  have hap := va_apart (own := own) hts hin ty0 hty hnm hK hc
  have hat := hW.2 i h1 h2
  rw [hκ] at hat
  obtain ⟨r, g1, cell, q1, q2, q3, q4⟩ := hat
  have hr : r = (C', T, N) := Option.some.inj (g1.symm.trans hc)
  subst hr
  obtain ⟨hS, hfc, kC, hkC, hkind⟩ := hK.1 ci _ hc
  obtain ⟨cf, kf, fi, f, hif, hsl⟩ := hS k hk
  have hlay := hts _ (hin _ (u_in_lay hk))
  unfold u_lay at hlay
  rw [if_neg (by rw [hfin]; decide)] at hlay
  have hst := (u_facts hfc hkC (u_lays hts hin hk) hif).1
  have h6 := u_store hfc hkC hkind hlay hif hd hn hfit
  refine W.putK hexec hb (f := f) ⟨hown, hts _ hlink, ⟨_, _, _, hsame _ hif⟩, hst⟩ (by rw [q2]; exact h6) q1 q3 (by rw [hsl]; exact k2_hasslot (q4 k hk)) rfl rfl hdg fun H' e1 e2 e3 => ?_
  rw [hsl] at e1 ⊢
  refine kk H' _ ls (hW.set (ug_R hW.1 hxr i k) (fun j hj => ug_ne σ hj k x) ?_ e3) (hS0.put e2 e3 ⟨by omega, by omega⟩) hl
  rw [ug_self, hset]
  exact ⟨_, hc, t_OB.to (V := updV (vp_V fs) k (.int (iI x))) ⟨_, e1, q2, q3, t_set q4 hap hk _⟩ (fun j _ => vp_updV_set hlen _ j)⟩
theorem v_iald (C : Cx p s m args meth c cc nL own ret D aC) {i n : Nat} (h1 : lo ≤ i) (h2 : i < hi) (hκ : cel aC B (σ i) i = .inl (aC 0, (n, .inl (fun j => iI (σ i j))))) {k : Int} (hk : inR k) (hk0 : 0 ≤ k ∧ k < n) (hdg : decode cc pc = .ok (.iaload, 1)) (kk : V p l e R s m args below meth c D aC B lo hi nL Q σ (pc + 1) lv (.int (iI (σ i k.toNat)) :: st)) : V p l e R s m args below meth c D aC B lo hi nL Q σ pc lv (.int (iI k) :: .ref (B + i) :: st) := by
  intro H locs ls hW hS hl
  have hat := hW.2 i h1 h2
  rw [hκ] at hat
  refine va_iald (D := D) (cl := vwCl) (tys := tysA aC) C.1 C.2.1 C.2.2.2.2.2.1 (va_P1 hat) 0 0 rfl rfl (in_iI hk hk0.1 hk0.2) hdg ?_
  rw [clamp_iI hk hk0.1]
  exact kk H locs ls hW hS hl
theorem v_zald (C : Cx p s m args meth c cc nL own ret D aC) {i n : Nat} (h1 : lo ≤ i) (h2 : i < hi) (hκ : cel aC B (σ i) i = .inl (aC 1, (n, .inl (fun j => iI (σ i j))))) {k : Int} (hk : inR k) (hk0 : 0 ≤ k ∧ k < n) (hdg : decode cc pc = .ok (.baload, 1)) (kk : V p l e R s m args below meth c D aC B lo hi nL Q σ (pc + 1) lv (.int (iI (σ i k.toNat)) :: st)) : V p l e R s m args below meth c D aC B lo hi nL Q σ pc lv (.int (iI k) :: .ref (B + i) :: st) := by
  intro H locs ls hW hS hl
  have hat := hW.2 i h1 h2
  rw [hκ] at hat
  refine va_zald (D := D) (cl := vwCl) (tys := tysA aC) C.1 C.2.1 C.2.2.2.2.2.1 (va_P1 hat) 0 1 rfl rfl (in_iI hk hk0.1 hk0.2) hdg ?_
  rw [clamp_iI hk hk0.1]
  exact kk H locs ls hW hS hl
theorem v_cald (C : Cx p s m args meth c cc nL own ret D aC) {i n : Nat} (h1 : lo ≤ i) (h2 : i < hi) (hκ : cel aC B (σ i) i = .inl (aC 2, (n, .inl (fun j => iI (σ i j))))) {k : Int} (hk : inR k) (hk0 : 0 ≤ k ∧ k < n) (hdg : decode cc pc = .ok (.caload, 1)) (kk : V p l e R s m args below meth c D aC B lo hi nL Q σ (pc + 1) lv (.int (iI (σ i k.toNat)) :: st)) : V p l e R s m args below meth c D aC B lo hi nL Q σ pc lv (.int (iI k) :: .ref (B + i) :: st) := by
  intro H locs ls hW hS hl
  have hat := hW.2 i h1 h2
  rw [hκ] at hat
  refine va_cald (D := D) (cl := vwCl) (tys := tysA aC) C.1 C.2.1 C.2.2.2.2.2.1 (va_P1 hat) 0 2 rfl rfl (in_iI hk hk0.1 hk0.2) hdg ?_
  rw [clamp_iI hk hk0.1]
  exact kk H locs ls hW hS hl
theorem v_aald (C : Cx p s m args meth c cc nL own ret D aC) {i n : Nat} {g : Nat → Nat} (t0 : Nat) {cn : String} (ht : (tysA aC)[t0]? = some (aC t0, .object cn)) (h1 : lo ≤ i) (h2 : i < hi) (hκ : cel aC B (σ i) i = .inl (aC t0, (n, .inr (.inr (.inr (.inr (fun j => some (B + g j)))))))) {k : Int} (hk : inR k) (hk0 : 0 ≤ k ∧ k < n) (hdg : decode cc pc = .ok (.aaload, 1)) (kk : V p l e R s m args below meth c D aC B lo hi nL Q σ (pc + 1) lv (.ref (B + g k.toNat) :: st)) : V p l e R s m args below meth c D aC B lo hi nL Q σ pc lv (.int (iI k) :: .ref (B + i) :: st) := by
  intro H locs ls hW hS hl
  have hat := hW.2 i h1 h2
  rw [hκ] at hat
  refine va_aldq (D := D) (cl := vwCl) (tys := tysA aC) C.1 C.2.1 C.2.2.2.2.2.1 (va_P1 hat) 0 t0 rfl ht (in_iI hk hk0.1 hk0.2) hdg ?_
  rw [clamp_iI hk hk0.1]
  exact kk H locs ls hW hS hl
theorem upd_up (f : Nat → Int) (k : Nat) (x : Int) : (fun j => Value.int (iI (up f k x j))) = updV (fun j => .int (iI (f j))) k (.int (iI x)) := by
  funext j
  unfold up updV
  split <;> rfl
theorem v_iast (C : Cx p s m args meth c cc nL own ret D aC) {i n : Nat} (h1 : lo ≤ i) (h2 : i < hi) (hκ : ∀ f : Nat → Int, cel aC B f i = .inl (aC 0, (n, .inl (fun j => iI (f j))))) {k x : Int} (hk : inR k) (hk0 : 0 ≤ k ∧ k < n) (hx : inR x) (hdg : decode cc pc = .ok (.iastore, 1)) (kk : V p l e R s m args below meth c D aC B lo hi nL Q (ug σ i k.toNat x) (pc + 1) lv st) : V p l e R s m args below meth c D aC B lo hi nL Q σ pc lv (.int (iI x) :: .int (iI k) :: .ref (B + i) :: st) := by
  intro H locs ls hW hS hl
  have hat := hW.2 i h1 h2
  rw [hκ] at hat
  refine W.iast C.1 C.2.1 hat ((C.2.2.2.2.2.1.2 0 _ rfl).1 n (fun j => .int (iI (σ i j)))) (fun q => by cases q) (by show ¬ (_ ∨ (arrV _ _ _).slots.size ≤ _); rw [arrV_size]; exact in_iI hk hk0.1 hk0.2) rfl rfl hdg fun H1 e z oq => ?_
  rw [clamp_iI hk hk0.1] at e ⊢
  refine kk H1 _ ls (hW.set (ug_R hW.1 hx i _) (fun j hj => ug_ne σ hj _ x) ?_ oq) (hS.put z oq ⟨by omega, by omega⟩) hl
  rw [hκ, ug_self]
  show H1[B + i]? = some (vp_cell _ _)
  rw [e]
  dsimp only
  rw [vp_cell_i, vp_cell_i, arrV_store, upd_up]
theorem v_zast (C : Cx p s m args meth c cc nL own ret D aC) {i n : Nat} (h1 : lo ≤ i) (h2 : i < hi) (hκ : ∀ f : Nat → Int, cel aC B f i = .inl (aC 1, (n, .inl (fun j => iI (f j))))) {k x : Int} (hk : inR k) (hk0 : 0 ≤ k ∧ k < n) (hx : x = 0 ∨ x = 1) (hdg : decode cc pc = .ok (.bastore, 1)) (kk : V p l e R s m args below meth c D aC B lo hi nL Q (ug σ i k.toNat x) (pc + 1) lv st) : V p l e R s m args below meth c D aC B lo hi nL Q σ pc lv (.int (iI x) :: .int (iI k) :: .ref (B + i) :: st) := by
  intro H locs ls hW hS hl
  have hat := hW.2 i h1 h2
  rw [hκ] at hat
  refine W.zast C.1 C.2.1 hat ((C.2.2.2.2.2.1.2 1 _ rfl).1 n (fun j => .int (iI (σ i j)))) (fun q => by cases q) (by show ¬ (_ ∨ (arrV _ _ _).slots.size ≤ _); rw [arrV_size]; exact in_iI hk hk0.1 hk0.2) rfl rfl hdg fun H1 e z oq => ?_
  rw [clamp_iI hk hk0.1] at e ⊢
  refine kk H1 _ ls (hW.set (ug_R hW.1 (by omega) i _) (fun j hj => ug_ne σ hj _ x) ?_ oq) (hS.put z oq ⟨by omega, by omega⟩) hl
  rw [hκ, ug_self]
  show H1[B + i]? = some (vp_cell _ _)
  rw [e, narrow_z hx]
  dsimp only
  rw [vp_cell_i, vp_cell_i, arrV_store, upd_up]
theorem narrow_c {x : Int} (h : 0 ≤ x ∧ x < 65536) : narrow .char (.int (iI x)) = .int (iI x) := by
  obtain ⟨n, rfl⟩ := Int.eq_ofNat_of_zero_le h.1
  have h1 : iI (n : Int) = nI n := Int32.ofInt_eq_ofNat
  rw [h1]
  exact (pk_charN (by omega)).1
theorem v_cast (C : Cx p s m args meth c cc nL own ret D aC) {i n : Nat} (h1 : lo ≤ i) (h2 : i < hi) (hκ : ∀ f : Nat → Int, cel aC B f i = .inl (aC 2, (n, .inl (fun j => iI (f j))))) {k x : Int} (hk : inR k) (hk0 : 0 ≤ k ∧ k < n) (hx : 0 ≤ x ∧ x < 65536) (hdg : decode cc pc = .ok (.castore, 1)) (kk : V p l e R s m args below meth c D aC B lo hi nL Q (ug σ i k.toNat x) (pc + 1) lv st) : V p l e R s m args below meth c D aC B lo hi nL Q σ pc lv (.int (iI x) :: .int (iI k) :: .ref (B + i) :: st) := by
  intro H locs ls hW hS hl
  have hat := hW.2 i h1 h2
  rw [hκ] at hat
  refine W.cast C.1 C.2.1 hat ((C.2.2.2.2.2.1.2 2 _ rfl).1 n (fun j => .int (iI (σ i j)))) (fun q => by cases q) (by show ¬ (_ ∨ (arrV _ _ _).slots.size ≤ _); rw [arrV_size]; exact in_iI hk hk0.1 hk0.2) rfl rfl hdg fun H1 e z oq => ?_
  rw [clamp_iI hk hk0.1] at e ⊢
  refine kk H1 _ ls (hW.set (ug_R hW.1 (by omega) i _) (fun j hj => ug_ne σ hj _ x) ?_ oq) (hS.put z oq ⟨by omega, by omega⟩) hl
  rw [hκ, ug_self]
  show H1[B + i]? = some (vp_cell _ _)
  rw [e, narrow_c hx]
  dsimp only
  rw [vp_cell_i, vp_cell_i, arrV_store, upd_up]
/-- a polynomial is put into a row of branches -/
theorem v_aast (C : Cx p s m args meth c cc nL own ret D aC) {i t : Nat} (h1 : lo ≤ i) (h2 : i < hi) (hi24 : KT.getD i 99 = 24) (hn : LT.getD i 0 = 6) (pt : PO lo hi t) {k : Int} (hk : inR k) (hk0 : 0 ≤ k ∧ k < 6) (hdg : decode cc pc = .ok (.aastore, 1)) (kk : V p l e R s m args below meth c D aC B lo hi nL Q (ug σ i k.toNat (t : Int)) (pc + 1) lv st) : V p l e R s m args below meth c D aC B lo hi nL Q σ pc lv (.ref (B + t) :: .int (iI k) :: .ref (B + i) :: st) := by
  intro H locs ls hW hS hl
  have ht : t < 316 := KT_lt pt.1 (by decide)
  have hat := hW.2 i h1 h2
  have hav := hW.2 t pt.2.1 (PO.hi pt)
  have hκ : ∀ f : Nat → Int, cel aC B f i = .inl (aC 3, (6, .inr (.inr (.inr (.inr (fun j => some (B + (f j).toNat))))))) := fun f => by rw [cel_of hi24]; show Sum.inl (aC 3, (LT.getD i 0, _)) = _; rw [hn]
  rw [hκ] at hat
  rw [cel_of pt.1] at hav
  obtain ⟨r', hr', cellV, g1, g2, g3, -⟩ := hav
  have hK := C.2.2.2.2.2.1
  have hc : vwCl[4]? = some (RX4, TX4, 2) := rfl
  have hcls := (hK.1 4 _ hc).2
  obtain ⟨kA, comp, k1, k2, k3, -⟩ := (hK.2 3 _ rfl).2
  have hcomp : comp = D.1 4 := Option.some.inj (k3.symm.trans hcls.1)
  subst hcomp
  obtain ⟨kC, hkC, -⟩ := hcls.2
  have hb : vp_in (iI k) 6 := in_iI hk hk0.1 hk0.2
  refine W.aast C.1 C.2.1 hat (fun q h => by cases h) (fun h => by cases h) k1 k2 rfl hkC ⟨fun q => hb (Or.inl q), by show _ < (arrV _ _ _).slots.size; rw [arrV_size]; exact Nat.not_le.mp fun q => hb (Or.inr q)⟩ g1 (fun q h => by rw [g3] at h; cases h) (by rw [g2]; exact hkC) (by rw [g2]; exact va_assign hcls) rfl rfl hdg fun H1 e z oq => ?_
  rw [clamp_iI hk hk0.1] at e ⊢
  refine kk H1 _ ls (hW.set (ug_R hW.1 (by omega) i _) (fun j hj => ug_ne σ hj _ _) ?_ oq) (hS.put z oq ⟨by omega, by omega⟩) hl
  rw [hκ, ug_self]
  show H1[B + i]? = some (vp_cell _ _)
  rw [e]
  dsimp only
  rw [vp_cell_q, vp_cell_q, arrV_store]
  congr 2
  funext j
  unfold up updV
  split
  · show Value.ref (B + t) = va_rf (some (B + (t : Int).toNat))
    rw [Int.toNat_natCast]
    rfl
  · rfl
/-! ends -/
theorem v_iret {Qc : Int → SG → Prop} (C : Cx p s m args meth c cc nL own (some .int) D aC) {z : Int} (hz : inR z) (hq : Qc z σ) (hdg : decode cc pc = .ok (.ireturn, 1)) : V p l e R s m args below meth c D aC B lo hi nL (MQ below (QI D aC B lo hi Qc) args s 0 0 (AB B lo hi)) σ pc lv [.int (iI z)] := by
  intro H locs ls hW hS hl
  have hlocks : meth.locks = false := C.2.2.2.2.2.2.1
  exact W.iret C.1 C.2.1 C.2.2.2.2.2.2.2 (fun t ht hWm => ⟨⟨iI z, σ, rfl, ⟨z, rfl, hz, hq⟩, by rw [ht]; exact hW, va_K.moved hWm.alike C.2.2.2.2.2.1⟩, hS.F ht⟩) hS.2.2 hdg
theorem v_zret {Qc : Int → SG → Prop} (C : Cx p s m args meth c cc nL own (some .boolean) D aC) {z : Int} (hz : z = 0 ∨ z = 1) (hq : Qc z σ) (hdg : decode cc pc = .ok (.ireturn, 1)) : V p l e R s m args below meth c D aC B lo hi nL (MQ below (QI D aC B lo hi Qc) args s 0 0 (AB B lo hi)) σ pc lv [.int (iI z)] := by
  intro H locs ls hW hS hl
  have hlocks : meth.locks = false := C.2.2.2.2.2.2.1
  exact W.zret C.1 C.2.1 C.2.2.2.2.2.2.2 (narrow_z hz) (fun t ht hWm => ⟨⟨iI z, σ, rfl, ⟨z, rfl, by omega, hq⟩, by rw [ht]; exact hW, va_K.moved hWm.alike C.2.2.2.2.2.1⟩, hS.F ht⟩) hS.2.2 hdg
theorem v_vret {Qc : SG → Prop} (C : Cx p s m args meth c cc nL own none D aC) (hq : Qc σ) (hdg : decode cc pc = .ok (.return_, 1)) : V p l e R s m args below meth c D aC B lo hi nL (MQ below (QV D aC B lo hi Qc) args s 0 0 (AB B lo hi)) σ pc lv [] := by
  intro H locs ls hW hS hl
  have hlocks : meth.locks = false := C.2.2.2.2.2.2.1
  exact W.vret C.1 C.2.1 C.2.2.2.2.2.2.2 (fun t ht hWm => ⟨⟨σ, rfl, hq, by rw [ht]; exact hW, va_K.moved hWm.alike C.2.2.2.2.2.1⟩, hS.F ht⟩) hS.2.2 hdg
/-! calls -/
theorem gw_V {own' C' : String} {idx maxL : Nat} {y : MethodName} {bytes : ByteArray} {ret' : Option FieldType} (h1 : Cond.methodLink own' idx y ∈ WS) (h2 : Cond.instanceMethod y ∈ WS ∧ Cond.selects C' y y ∈ WS ∧ Cond.initialized C' ∈ WS ∧ Cond.code y bytes maxL ret' ∈ WS) : GoodIn WS (wsV own' idx C' y (Cond.code y bytes maxL ret' :: WS)) := by
  have g : ∀ w ∈ wsV own' idx C' y (Cond.code y bytes maxL ret' :: WS), w ∈ WS := by
    intro w hw
    unfold wsV at hw
    simp only [List.cons_append, List.nil_append, List.mem_cons] at hw
    rcases hw with rfl | rfl | rfl | rfl | rfl | hw
    · exact h1
    · exact h2.1
    · exact h2.2.1
    · exact h2.2.2.1
    · exact h2.2.2.2
    · exact hw
  exact fun w hw => ⟨g w hw, good_of_word (WS_good w (g w hw))⟩
theorem gw_S {own' : String} {idx maxL : Nat} {y : MethodName} {bytes : ByteArray} {ret' : Option FieldType} (h1 : Cond.methodLink own' idx y ∈ WS) (h2 : Cond.static y ∈ WS ∧ Cond.initialized own' ∈ WS ∧ Cond.code y bytes maxL ret' ∈ WS) : GoodIn WS (wsS own' idx y (Cond.code y bytes maxL ret' :: WS)) := by
  have g : ∀ w ∈ wsS own' idx y (Cond.code y bytes maxL ret' :: WS), w ∈ WS := by
    intro w hw
    unfold wsS at hw
    simp only [List.cons_append, List.nil_append, List.mem_cons] at hw
    rcases hw with rfl | rfl | rfl | rfl | hw
    · exact h1
    · exact h2.1
    · exact h2.2.1
    · exact h2.2.2
    · exact hw
  exact fun w hw => ⟨g w hw, good_of_word (WS_good w (g w hw))⟩
theorem WP_blind {lo2 hi2 : Nat} {σ2 : SG} {As : List Value} : FrameBlind (va_Pc As (WP D aC B lo2 hi2 σ2)) := fun a U g mk q => ⟨q.1, q.2.1, va_K.moved (u := U) (U := U.calling g mk a) (Vm.Alike.refl U.vm) q.2.2⟩
theorem Wd.recv {i ci : Nat} {r : vw_C} {fs : List Value} {H : Heap} (hK : va_K D vwCl (tysA aC) s) (hW : Wd D aC B lo hi σ H) (h1 : lo ≤ i) (h2 : i < hi) (hκ : cel aC B (σ i) i = .inr (ci, fs)) (hc : vwCl[ci]? = some r) : ∃ cell : Cell, H[B + i]? = some cell ∧ cell.vm.isStatics = false ∧ s.vm.findClass r.1 = some cell.cls := by
  have hat := hW.2 i h1 h2
  rw [hκ] at hat
  exact va_recv (D := D) (cl := vwCl) (q0 := 0) hK (va_P1 hat) hc rfl
theorem v_calli {y : MethodName} {bytes : ByteArray} {maxL idx n i ci : Nat} {C' : String} {T : u_T} {N : Nat} {fs : List Value} {ret' : Option FieldType} {rm : Room} {As rest : List Value} {Qc : Int → SG → Prop} (C : Cx p s m args meth c cc nL own ret D aC)
    (hM : Met l y (Cond.code y bytes maxL ret' :: WS) rm (va_Pc (.ref (B + i) :: As) (WP D aC B lo hi σ)) (QI D aC B lo hi Qc) 0 0 (AB B lo hi))
    (hl1 : Cond.methodLink own idx y ∈ WS) (hl2 : Cond.instanceMethod y ∈ WS ∧ Cond.selects C' y y ∈ WS ∧ Cond.initialized C' ∈ WS ∧ Cond.code y bytes maxL ret' ∈ WS) (hrm : rm.cells = 0 ∧ rm.slots = 0)
    (hd : y.cls = C' ∧ y.cls ≠ "java/lang/invoke/MethodHandle" ∧ y.cls ≠ "java/lang/invoke/VarHandle" ∧ (parseMethodDescriptor y.desc).map (fun d => d.parameters.length) = some n) (hR : rm.frames + 1 ≤ R.frames ∧ 8 + (maxL + 11) + rm.locals ≤ R.locals)
    (h1 : lo ≤ i) (h2 : i < hi) (hκ : cel aC B (σ i) i = .inr (ci, fs)) (hc : vwCl[ci]? = some (C', T, N)) (hn : As.length = n) (hst : st = As.reverse ++ .ref (B + i) :: rest) (hW8 : (rest.map fun v => v.category).sum ≤ 8) (hdg : decode cc pc = .ok (.invokevirtual idx, 3))
    (kk : ∀ z σ', inR z → Qc z σ' → V p l e R s m args below meth c D aC B lo hi nL Q σ' (pc + 3) lv (.int (iI z) :: rest)) : V p l e R s m args below meth c D aC B lo hi nL Q σ pc lv st := by
  intro H locs ls hW hS hl
  have hK := C.2.2.2.2.2.1
  refine va_calli (va_runV (As := As) (rest := rest) ⟨C.1, C.2.1, C.2.2.1, C.2.2.2.1, C.2.2.2.2.1⟩ hM (cwV n C.2.2.2.2.1 (gw_V hl1 hl2) rfl hrm.1 hrm.2 hd hR) ⟨WP_blind, hW.recv hK h1 h2 hκ hc, fun U hU hWm => ⟨rfl, by rw [hU]; exact hW, va_K.moved hWm.alike hK⟩⟩ rfl hn hl.1 hst (lv_room hW8) hdg ⟨Nat.zero_le _, Nat.zero_le _⟩) hS (fun q _ h => h) (fun q h => h) (fun r u t H1 locs1 ht hvm hw hB hz1 hk1 hS1 => ?_)
  obtain ⟨z, rfl, hzr, hq⟩ := hw
  have hB1 := hB.1
  rw [ht] at hB1
  exact kk z u hzr hq H1 locs1 ls hB1 hS1 hl
theorem v_callv {y : MethodName} {bytes : ByteArray} {maxL idx n i ci : Nat} {C' : String} {T : u_T} {N : Nat} {fs : List Value} {ret' : Option FieldType} {rm : Room} {As rest : List Value} {Qc : SG → Prop} (C : Cx p s m args meth c cc nL own ret D aC)
    (hM : Met l y (Cond.code y bytes maxL ret' :: WS) rm (va_Pc (.ref (B + i) :: As) (WP D aC B lo hi σ)) (QV D aC B lo hi Qc) 0 0 (AB B lo hi))
    (hl1 : Cond.methodLink own idx y ∈ WS) (hl2 : Cond.instanceMethod y ∈ WS ∧ Cond.selects C' y y ∈ WS ∧ Cond.initialized C' ∈ WS ∧ Cond.code y bytes maxL ret' ∈ WS) (hrm : rm.cells = 0 ∧ rm.slots = 0)
    (hd : y.cls = C' ∧ y.cls ≠ "java/lang/invoke/MethodHandle" ∧ y.cls ≠ "java/lang/invoke/VarHandle" ∧ (parseMethodDescriptor y.desc).map (fun d => d.parameters.length) = some n) (hR : rm.frames + 1 ≤ R.frames ∧ 8 + (maxL + 11) + rm.locals ≤ R.locals)
    (h1 : lo ≤ i) (h2 : i < hi) (hκ : cel aC B (σ i) i = .inr (ci, fs)) (hc : vwCl[ci]? = some (C', T, N)) (hn : As.length = n) (hst : st = As.reverse ++ .ref (B + i) :: rest) (hW8 : (rest.map fun v => v.category).sum ≤ 8) (hdg : decode cc pc = .ok (.invokevirtual idx, 3))
    (kk : ∀ σ', Qc σ' → V p l e R s m args below meth c D aC B lo hi nL Q σ' (pc + 3) lv rest) : V p l e R s m args below meth c D aC B lo hi nL Q σ pc lv st := by
  intro H locs ls hW hS hl
  have hK := C.2.2.2.2.2.1
  refine va_callv (va_runV (As := As) (rest := rest) ⟨C.1, C.2.1, C.2.2.1, C.2.2.2.1, C.2.2.2.2.1⟩ hM (cwV n C.2.2.2.2.1 (gw_V hl1 hl2) rfl hrm.1 hrm.2 hd hR) ⟨WP_blind, hW.recv hK h1 h2 hκ hc, fun U hU hWm => ⟨rfl, by rw [hU]; exact hW, va_K.moved hWm.alike hK⟩⟩ rfl hn hl.1 hst (lv_room hW8) hdg ⟨Nat.zero_le _, Nat.zero_le _⟩) hS (fun q _ h => h) (fun q h => h) (fun u t H1 locs1 ht hvm hw hB hz1 hk1 hS1 => ?_)
  have hB1 := hB.1
  rw [ht] at hB1
  exact kk u hw H1 locs1 ls hB1 hS1 hl
theorem v_callsi {y : MethodName} {bytes : ByteArray} {maxL idx n : Nat} {ret' : Option FieldType} {rm : Room} {As rest : List Value} {Qc : Int → SG → Prop} (C : Cx p s m args meth c cc nL own ret D aC)
    (hM : Met l y (Cond.code y bytes maxL ret' :: WS) rm (va_Pc As (WP D aC B lo hi σ)) (QI D aC B lo hi Qc) 0 0 (AB B lo hi))
    (hl1 : Cond.methodLink own idx y ∈ WS) (hl2 : Cond.static y ∈ WS ∧ Cond.initialized y.cls ∈ WS ∧ Cond.code y bytes maxL ret' ∈ WS) (hrm : rm.cells = 0 ∧ rm.slots = 0)
    (hd : y.cls ≠ "java/lang/invoke/MethodHandle" ∧ y.cls ≠ "java/lang/invoke/VarHandle" ∧ (parseMethodDescriptor y.desc).map (fun d => d.parameters.length) = some n) (hR : rm.frames + 1 ≤ R.frames ∧ 8 + (maxL + 11) + rm.locals ≤ R.locals)
    (hn : As.length = n) (hst : st = As.reverse ++ rest) (hW8 : (rest.map fun v => v.category).sum ≤ 8) (hdg : decode cc pc = .ok (.invokestatic idx, 3))
    (kk : ∀ z σ', inR z → Qc z σ' → V p l e R s m args below meth c D aC B lo hi nL Q σ' (pc + 3) lv (.int (iI z) :: rest)) : V p l e R s m args below meth c D aC B lo hi nL Q σ pc lv st := by
  intro H locs ls hW hS hl
  have hK := C.2.2.2.2.2.1
  have hG : GoodIn WS (Cond.code y bytes maxL ret' :: WS) := fun w hw => by
    have g : w ∈ WS := by
      rcases List.mem_cons.mp hw with rfl | h
      · exact hl2.2.2
      · exact h
    exact ⟨g, good_of_word (WS_good w g)⟩
  refine va_calli (va_runS (As := As) (rest := rest) ⟨C.1, C.2.1, C.2.2.1, C.2.2.2.1, C.2.2.2.2.1⟩ hM ⟨callB_of n C.2.2.2.2.1 hG rfl hrm.1 hrm.2 (C.2.2.2.2.1 _ hl2.2.1) (C.2.2.2.2.1 _ hl1) hd hR, C.2.2.2.2.1 _ hl2.1⟩ ⟨WP_blind, fun U hU hWm => ⟨rfl, by rw [hU]; exact hW, va_K.moved hWm.alike hK⟩⟩ rfl hn hl.1 hst (lv_room hW8) hdg ⟨Nat.zero_le _, Nat.zero_le _⟩) hS (fun q _ h => h) (fun q h => h) (fun r u t H1 locs1 ht hvm hw hB hz1 hk1 hS1 => ?_)
  obtain ⟨z, rfl, hzr, hq⟩ := hw
  have hB1 := hB.1
  rw [ht] at hB1
  exact kk z u hzr hq H1 locs1 ls hB1 hS1 hl
def imax (a b : Int) : Int := if a < b then b else a
def imin (a b : Int) : Int := if b < a then b else a
theorem inR_imax {a b : Int} (ha : inR a) (hb : inR b) : inR (imax a b) := by unfold imax; split <;> assumption
theorem inR_imin {a b : Int} (ha : inR a) (hb : inR b) : inR (imin a b) := by unfold imin; split <;> assumption
theorem v_max (C : Cx p s m args meth c cc nL own ret D aC) {idx : Nat} {a b : Int} (ha : inR a) (hb : inR b) (hl1 : Cond.methodLink own idx Lib.Math.max.name ∈ WS) (hl2 : Cond.static Lib.Math.max.name ∈ WS ∧ Cond.initialized "java/lang/Math" ∈ WS ∧ Cond.code Lib.Math.max.name Lib.Math.max.code 2 (some .int) ∈ WS) (hR : 1 ≤ R.frames) (hR2 : (st.map fun v => v.category).sum + 13 ≤ R.locals) (hdg : decode cc pc = .ok (.invokestatic idx, 3)) (kk : V p l e R s m args below meth c D aC B lo hi nL Q σ (pc + 3) lv (.int (iI (imax a b)) :: st)) : V p l e R s m args below meth c D aC B lo hi nL Q σ pc lv (.int (iI b) :: .int (iI a) :: st) := by
  intro H locs ls hW hS hl
  refine va_mmax C.1 C.2.1 (by rw [C.2.2.1]; exact hl.1.symm) C.2.2.2.1 (C.2.2.2.2.1 _ hl1) (C.2.2.2.2.1 _ hl2.1) (C.2.2.2.2.1 _ hl2.2.1) (C.2.2.2.2.1 _ hl2.2.2) hR hR2 (Nat.zero_le _) (Nat.zero_le _) hdg ?_
  have h := kk H locs ls hW hS hl
  rw [show (if iI a < iI b then iI b else iI a) = iI (imax a b) by unfold imax; by_cases q : a < b; (rw [if_pos q, if_pos ((iI_lt ha hb).mpr q)]); (rw [if_neg q, if_neg (fun z => q ((iI_lt ha hb).mp z))])]
  exact h
theorem v_min (C : Cx p s m args meth c cc nL own ret D aC) {idx : Nat} {a b : Int} (ha : inR a) (hb : inR b) (hl1 : Cond.methodLink own idx Lib.Math.min.name ∈ WS) (hl2 : Cond.static Lib.Math.min.name ∈ WS ∧ Cond.initialized "java/lang/Math" ∈ WS ∧ Cond.code Lib.Math.min.name Lib.Math.min.code 2 (some .int) ∈ WS) (hR : 1 ≤ R.frames) (hR2 : (st.map fun v => v.category).sum + 13 ≤ R.locals) (hdg : decode cc pc = .ok (.invokestatic idx, 3)) (kk : V p l e R s m args below meth c D aC B lo hi nL Q σ (pc + 3) lv (.int (iI (imin a b)) :: st)) : V p l e R s m args below meth c D aC B lo hi nL Q σ pc lv (.int (iI b) :: .int (iI a) :: st) := by
  intro H locs ls hW hS hl
  refine va_mmin C.1 C.2.1 (by rw [C.2.2.1]; exact hl.1.symm) C.2.2.2.1 (C.2.2.2.2.1 _ hl1) (C.2.2.2.2.1 _ hl2.1) (C.2.2.2.2.1 _ hl2.2.1) (C.2.2.2.2.1 _ hl2.2.2) hR hR2 (Nat.zero_le _) (Nat.zero_le _) hdg ?_
  have h := kk H locs ls hW hS hl
  rw [show (if iI b < iI a then iI b else iI a) = iI (imin a b) by unfold imin; by_cases q : b < a; (rw [if_pos q, if_pos ((iI_lt hb ha).mpr q)]); (rw [if_neg q, if_neg (fun z => q ((iI_lt hb ha).mp z))])]
  exact h
theorem good_cons {x : Cond} : True := trivial
/-- a method's contract, from its first instruction -/
theorem met_of {y : MethodName} {bytes : ByteArray} {maxL : Nat} {ret' : Option FieldType} {rm : Room} {As : List Value} {Qc : Array Value → State → Outcome → State → Prop} {C' : String} (hy : plainName y.cls = true) (hC : y.cls = C') (hAs : (lg_sl As).length ≤ maxL)
    (body : ∀ p e s m args below meth c, Cx p s m args meth c bytes maxL C' ret' D aC → V p l e rm s m args below meth c D aC B lo hi maxL (MQ below Qc args s 0 0 (AB B lo hi)) σ 0 (lv_args 0 As) []) : Met l y (Cond.code y bytes maxL ret' :: WS) rm (va_Pc As (WP D aC B lo hi σ)) Qc 0 0 (AB B lo hi) := by
  refine Met.ofW (cc := bytes) (maxL := maxL) (ret := ret') hy rfl ?_
  intro p e s m args below meth c s₁ Bd hml hv
  obtain ⟨rfl, hW, hK⟩ := hv
  have hts := atoms_spec (ws := Cond.code y bytes maxL ret' :: WS) Bd.pre
  have hown : s.vm.findClass C' = some m.cls := by rw [← hC]; exact findClass_of_methodNamed Bd.named
  have hl := lv_entry As (n := maxL) hAs
  rw [lg_entry_eq]
  exact body p e s m As.toArray below meth c ⟨Bd.exec, Bd.bytes, hml, hown, fun w h => hts w (List.mem_cons_of_mem _ h), hK, Bd.notSynchronized, Bd.returns⟩ s.heap [] _ hW va_S.rf hl

theorem gf0_state (C : Cx p s m args meth c cc nL own ret D aC) (hlo : lo ≤ 0) (hhi : 304 ≤ hi) {idx : Nat} (hlink : Cond.fieldLink own idx "SplitTowers$Branching" "state" "LSplitTowers$State;" ∈ WS) (hdg : decode cc pc = .ok (.getfield idx, 3)) (kk : V p l e R s m args below meth c D aC B lo hi nL Q σ (pc + 3) lv (.ref (B + 1) :: st)) : V p l e R s m args below meth c D aC B lo hi nL Q σ pc lv (.ref (B + 91) :: st) :=
  v_get C (ci := 0) inX0 rfl (Nat.le_trans hlo (Nat.zero_le _)) (Nat.lt_of_lt_of_le (by decide) hhi) (rfl) 0 (by decide) hlink (fun _ h => h) rfl hdg kk
theorem gf0_field (C : Cx p s m args meth c cc nL own ret D aC) (hlo : lo ≤ 0) (hhi : 304 ≤ hi) {idx : Nat} (hlink : Cond.fieldLink own idx "SplitTowers$Branching" "field" "LSplitTowers$Field;" ∈ WS) (hdg : decode cc pc = .ok (.getfield idx, 3)) (kk : V p l e R s m args below meth c D aC B lo hi nL Q σ (pc + 3) lv (.ref (B + 33) :: st)) : V p l e R s m args below meth c D aC B lo hi nL Q σ pc lv (.ref (B + 91) :: st) :=
  v_get C (ci := 0) inX0 rfl (Nat.le_trans hlo (Nat.zero_le _)) (Nat.lt_of_lt_of_le (by decide) hhi) (rfl) 1 (by decide) hlink (fun _ h => h) rfl hdg kk
theorem gf0_common (C : Cx p s m args meth c cc nL own ret D aC) (hlo : lo ≤ 0) (hhi : 304 ≤ hi) {idx : Nat} (hlink : Cond.fieldLink own idx "SplitTowers$Branching" "common" "LSplitTowers$Poly;" ∈ WS) (hdg : decode cc pc = .ok (.getfield idx, 3)) (kk : V p l e R s m args below meth c D aC B lo hi nL Q σ (pc + 3) lv (.ref (B + 92) :: st)) : V p l e R s m args below meth c D aC B lo hi nL Q σ pc lv (.ref (B + 91) :: st) :=
  v_get C (ci := 0) inX0 rfl (Nat.le_trans hlo (Nat.zero_le _)) (Nat.lt_of_lt_of_le (by decide) hhi) (rfl) 2 (by decide) hlink (fun _ h => h) rfl hdg kk
theorem gf0_rest (C : Cx p s m args meth c cc nL own ret D aC) (hlo : lo ≤ 0) (hhi : 304 ≤ hi) {idx : Nat} (hlink : Cond.fieldLink own idx "SplitTowers$Branching" "rest" "LSplitTowers$Poly;" ∈ WS) (hdg : decode cc pc = .ok (.getfield idx, 3)) (kk : V p l e R s m args below meth c D aC B lo hi nL Q σ (pc + 3) lv (.ref (B + 94) :: st)) : V p l e R s m args below meth c D aC B lo hi nL Q σ pc lv (.ref (B + 91) :: st) :=
  v_get C (ci := 0) inX0 rfl (Nat.le_trans hlo (Nat.zero_le _)) (Nat.lt_of_lt_of_le (by decide) hhi) (rfl) 3 (by decide) hlink (fun _ h => h) rfl hdg kk
theorem gf0_nothings (C : Cx p s m args meth c cc nL own ret D aC) (hlo : lo ≤ 0) (hhi : 304 ≤ hi) {idx : Nat} (hlink : Cond.fieldLink own idx "SplitTowers$Branching" "nothings" "LSplitTowers$Poly;" ∈ WS) (hdg : decode cc pc = .ok (.getfield idx, 3)) (kk : V p l e R s m args below meth c D aC B lo hi nL Q σ (pc + 3) lv (.ref (B + 96) :: st)) : V p l e R s m args below meth c D aC B lo hi nL Q σ pc lv (.ref (B + 91) :: st) :=
  v_get C (ci := 0) inX0 rfl (Nat.le_trans hlo (Nat.zero_le _)) (Nat.lt_of_lt_of_le (by decide) hhi) (rfl) 4 (by decide) hlink (fun _ h => h) rfl hdg kk
theorem gf0_others (C : Cx p s m args meth c cc nL own ret D aC) (hlo : lo ≤ 0) (hhi : 304 ≤ hi) {idx : Nat} (hlink : Cond.fieldLink own idx "SplitTowers$Branching" "others" "LSplitTowers$Poly;" ∈ WS) (hdg : decode cc pc = .ok (.getfield idx, 3)) (kk : V p l e R s m args below meth c D aC B lo hi nL Q σ (pc + 3) lv (.ref (B + 98) :: st)) : V p l e R s m args below meth c D aC B lo hi nL Q σ pc lv (.ref (B + 91) :: st) :=
  v_get C (ci := 0) inX0 rfl (Nat.le_trans hlo (Nat.zero_le _)) (Nat.lt_of_lt_of_le (by decide) hhi) (rfl) 5 (by decide) hlink (fun _ h => h) rfl hdg kk
theorem gf1_state (C : Cx p s m args meth c cc nL own ret D aC) (hlo : lo ≤ 0) (hhi : 304 ≤ hi) {idx : Nat} (hlink : Cond.fieldLink own idx "SplitTowers$Degrees" "state" "LSplitTowers$State;" ∈ WS) (hdg : decode cc pc = .ok (.getfield idx, 3)) (kk : V p l e R s m args below meth c D aC B lo hi nL Q σ (pc + 3) lv (.ref (B + 1) :: st)) : V p l e R s m args below meth c D aC B lo hi nL Q σ pc lv (.ref (B + 100) :: st) :=
  v_get C (ci := 1) inX1 rfl (Nat.le_trans hlo (Nat.zero_le _)) (Nat.lt_of_lt_of_le (by decide) hhi) (rfl) 0 (by decide) hlink (fun _ h => h) rfl hdg kk
theorem gf1_field (C : Cx p s m args meth c cc nL own ret D aC) (hlo : lo ≤ 0) (hhi : 304 ≤ hi) {idx : Nat} (hlink : Cond.fieldLink own idx "SplitTowers$Degrees" "field" "LSplitTowers$Field;" ∈ WS) (hdg : decode cc pc = .ok (.getfield idx, 3)) (kk : V p l e R s m args below meth c D aC B lo hi nL Q σ (pc + 3) lv (.ref (B + 33) :: st)) : V p l e R s m args below meth c D aC B lo hi nL Q σ pc lv (.ref (B + 100) :: st) :=
  v_get C (ci := 1) inX1 rfl (Nat.le_trans hlo (Nat.zero_le _)) (Nat.lt_of_lt_of_le (by decide) hhi) (rfl) 1 (by decide) hlink (fun _ h => h) rfl hdg kk
theorem gf1_ring (C : Cx p s m args meth c cc nL own ret D aC) (hlo : lo ≤ 0) (hhi : 304 ≤ hi) {idx : Nat} (hlink : Cond.fieldLink own idx "SplitTowers$Degrees" "ring" "LSplitTowers$Ring;" ∈ WS) (hdg : decode cc pc = .ok (.getfield idx, 3)) (kk : V p l e R s m args below meth c D aC B lo hi nL Q σ (pc + 3) lv (.ref (B + 48) :: st)) : V p l e R s m args below meth c D aC B lo hi nL Q σ pc lv (.ref (B + 100) :: st) :=
  v_get C (ci := 1) inX1 rfl (Nat.le_trans hlo (Nat.zero_le _)) (Nat.lt_of_lt_of_le (by decide) hhi) (rfl) 2 (by decide) hlink (fun _ h => h) rfl hdg kk
theorem gf1_products (C : Cx p s m args meth c cc nL own ret D aC) (hlo : lo ≤ 0) (hhi : 304 ≤ hi) {idx : Nat} (hlink : Cond.fieldLink own idx "SplitTowers$Degrees" "products" "[LSplitTowers$Poly;" ∈ WS) (hdg : decode cc pc = .ok (.getfield idx, 3)) (kk : V p l e R s m args below meth c D aC B lo hi nL Q σ (pc + 3) lv (.ref (B + 101) :: st)) : V p l e R s m args below meth c D aC B lo hi nL Q σ pc lv (.ref (B + 100) :: st) :=
  v_get C (ci := 1) inX1 rfl (Nat.le_trans hlo (Nat.zero_le _)) (Nat.lt_of_lt_of_le (by decide) hhi) (rfl) 3 (by decide) hlink (fun _ h => h) rfl hdg kk
theorem gf1_rest (C : Cx p s m args meth c cc nL own ret D aC) (hlo : lo ≤ 0) (hhi : 304 ≤ hi) {idx : Nat} (hlink : Cond.fieldLink own idx "SplitTowers$Degrees" "rest" "LSplitTowers$Poly;" ∈ WS) (hdg : decode cc pc = .ok (.getfield idx, 3)) (kk : V p l e R s m args below meth c D aC B lo hi nL Q σ (pc + 3) lv (.ref (B + 116) :: st)) : V p l e R s m args below meth c D aC B lo hi nL Q σ pc lv (.ref (B + 100) :: st) :=
  v_get C (ci := 1) inX1 rfl (Nat.le_trans hlo (Nat.zero_le _)) (Nat.lt_of_lt_of_le (by decide) hhi) (rfl) 4 (by decide) hlink (fun _ h => h) rfl hdg kk
theorem gf1_raised (C : Cx p s m args meth c cc nL own ret D aC) (hlo : lo ≤ 0) (hhi : 304 ≤ hi) {idx : Nat} (hlink : Cond.fieldLink own idx "SplitTowers$Degrees" "raised" "LSplitTowers$Poly;" ∈ WS) (hdg : decode cc pc = .ok (.getfield idx, 3)) (kk : V p l e R s m args below meth c D aC B lo hi nL Q σ (pc + 3) lv (.ref (B + 118) :: st)) : V p l e R s m args below meth c D aC B lo hi nL Q σ pc lv (.ref (B + 100) :: st) :=
  v_get C (ci := 1) inX1 rfl (Nat.le_trans hlo (Nat.zero_le _)) (Nat.lt_of_lt_of_le (by decide) hhi) (rfl) 5 (by decide) hlink (fun _ h => h) rfl hdg kk
theorem gf1_difference (C : Cx p s m args meth c cc nL own ret D aC) (hlo : lo ≤ 0) (hhi : 304 ≤ hi) {idx : Nat} (hlink : Cond.fieldLink own idx "SplitTowers$Degrees" "difference" "LSplitTowers$Poly;" ∈ WS) (hdg : decode cc pc = .ok (.getfield idx, 3)) (kk : V p l e R s m args below meth c D aC B lo hi nL Q σ (pc + 3) lv (.ref (B + 120) :: st)) : V p l e R s m args below meth c D aC B lo hi nL Q σ pc lv (.ref (B + 100) :: st) :=
  v_get C (ci := 1) inX1 rfl (Nat.le_trans hlo (Nat.zero_le _)) (Nat.lt_of_lt_of_le (by decide) hhi) (rfl) 6 (by decide) hlink (fun _ h => h) rfl hdg kk
theorem gf1_variable (C : Cx p s m args meth c cc nL own ret D aC) (hlo : lo ≤ 0) (hhi : 304 ≤ hi) {idx : Nat} (hlink : Cond.fieldLink own idx "SplitTowers$Degrees" "variable" "LSplitTowers$Poly;" ∈ WS) (hdg : decode cc pc = .ok (.getfield idx, 3)) (kk : V p l e R s m args below meth c D aC B lo hi nL Q σ (pc + 3) lv (.ref (B + 122) :: st)) : V p l e R s m args below meth c D aC B lo hi nL Q σ pc lv (.ref (B + 100) :: st) :=
  v_get C (ci := 1) inX1 rfl (Nat.le_trans hlo (Nat.zero_le _)) (Nat.lt_of_lt_of_le (by decide) hhi) (rfl) 7 (by decide) hlink (fun _ h => h) rfl hdg kk
theorem gf2_state (C : Cx p s m args meth c cc nL own ret D aC) (hlo : lo ≤ 0) (hhi : 304 ≤ hi) {idx : Nat} (hlink : Cond.fieldLink own idx "SplitTowers$Field" "state" "LSplitTowers$State;" ∈ WS) (hdg : decode cc pc = .ok (.getfield idx, 3)) (kk : V p l e R s m args below meth c D aC B lo hi nL Q σ (pc + 3) lv (.ref (B + 1) :: st)) : V p l e R s m args below meth c D aC B lo hi nL Q σ pc lv (.ref (B + 33) :: st) :=
  v_get C (ci := 2) inX2 rfl (Nat.le_trans hlo (Nat.zero_le _)) (Nat.lt_of_lt_of_le (by decide) hhi) (rfl) 0 (by decide) hlink (fun _ h => h) rfl hdg kk
theorem gf2_product (C : Cx p s m args meth c cc nL own ret D aC) (hlo : lo ≤ 0) (hhi : 304 ≤ hi) {idx : Nat} (hlink : Cond.fieldLink own idx "SplitTowers$Field" "product" "LSplitTowers$Poly;" ∈ WS) (hdg : decode cc pc = .ok (.getfield idx, 3)) (kk : V p l e R s m args below meth c D aC B lo hi nL Q σ (pc + 3) lv (.ref (B + 34) :: st)) : V p l e R s m args below meth c D aC B lo hi nL Q σ pc lv (.ref (B + 33) :: st) :=
  v_get C (ci := 2) inX2 rfl (Nat.le_trans hlo (Nat.zero_le _)) (Nat.lt_of_lt_of_le (by decide) hhi) (rfl) 1 (by decide) hlink (fun _ h => h) rfl hdg kk
theorem gf2_quotient (C : Cx p s m args meth c cc nL own ret D aC) (hlo : lo ≤ 0) (hhi : 304 ≤ hi) {idx : Nat} (hlink : Cond.fieldLink own idx "SplitTowers$Field" "quotient" "LSplitTowers$Poly;" ∈ WS) (hdg : decode cc pc = .ok (.getfield idx, 3)) (kk : V p l e R s m args below meth c D aC B lo hi nL Q σ (pc + 3) lv (.ref (B + 36) :: st)) : V p l e R s m args below meth c D aC B lo hi nL Q σ pc lv (.ref (B + 33) :: st) :=
  v_get C (ci := 2) inX2 rfl (Nat.le_trans hlo (Nat.zero_le _)) (Nat.lt_of_lt_of_le (by decide) hhi) (rfl) 2 (by decide) hlink (fun _ h => h) rfl hdg kk
theorem gf2_dividend (C : Cx p s m args meth c cc nL own ret D aC) (hlo : lo ≤ 0) (hhi : 304 ≤ hi) {idx : Nat} (hlink : Cond.fieldLink own idx "SplitTowers$Field" "dividend" "LSplitTowers$Poly;" ∈ WS) (hdg : decode cc pc = .ok (.getfield idx, 3)) (kk : V p l e R s m args below meth c D aC B lo hi nL Q σ (pc + 3) lv (.ref (B + 38) :: st)) : V p l e R s m args below meth c D aC B lo hi nL Q σ pc lv (.ref (B + 33) :: st) :=
  v_get C (ci := 2) inX2 rfl (Nat.le_trans hlo (Nat.zero_le _)) (Nat.lt_of_lt_of_le (by decide) hhi) (rfl) 3 (by decide) hlink (fun _ h => h) rfl hdg kk
theorem gf2_left (C : Cx p s m args meth c cc nL own ret D aC) (hlo : lo ≤ 0) (hhi : 304 ≤ hi) {idx : Nat} (hlink : Cond.fieldLink own idx "SplitTowers$Field" "left" "LSplitTowers$Poly;" ∈ WS) (hdg : decode cc pc = .ok (.getfield idx, 3)) (kk : V p l e R s m args below meth c D aC B lo hi nL Q σ (pc + 3) lv (.ref (B + 40) :: st)) : V p l e R s m args below meth c D aC B lo hi nL Q σ pc lv (.ref (B + 33) :: st) :=
  v_get C (ci := 2) inX2 rfl (Nat.le_trans hlo (Nat.zero_le _)) (Nat.lt_of_lt_of_le (by decide) hhi) (rfl) 4 (by decide) hlink (fun _ h => h) rfl hdg kk
theorem gf2_right (C : Cx p s m args meth c cc nL own ret D aC) (hlo : lo ≤ 0) (hhi : 304 ≤ hi) {idx : Nat} (hlink : Cond.fieldLink own idx "SplitTowers$Field" "right" "LSplitTowers$Poly;" ∈ WS) (hdg : decode cc pc = .ok (.getfield idx, 3)) (kk : V p l e R s m args below meth c D aC B lo hi nL Q σ (pc + 3) lv (.ref (B + 42) :: st)) : V p l e R s m args below meth c D aC B lo hi nL Q σ pc lv (.ref (B + 33) :: st) :=
  v_get C (ci := 2) inX2 rfl (Nat.le_trans hlo (Nat.zero_le _)) (Nat.lt_of_lt_of_le (by decide) hhi) (rfl) 5 (by decide) hlink (fun _ h => h) rfl hdg kk
theorem gf2_leftFactor (C : Cx p s m args meth c cc nL own ret D aC) (hlo : lo ≤ 0) (hhi : 304 ≤ hi) {idx : Nat} (hlink : Cond.fieldLink own idx "SplitTowers$Field" "leftFactor" "LSplitTowers$Poly;" ∈ WS) (hdg : decode cc pc = .ok (.getfield idx, 3)) (kk : V p l e R s m args below meth c D aC B lo hi nL Q σ (pc + 3) lv (.ref (B + 44) :: st)) : V p l e R s m args below meth c D aC B lo hi nL Q σ pc lv (.ref (B + 33) :: st) :=
  v_get C (ci := 2) inX2 rfl (Nat.le_trans hlo (Nat.zero_le _)) (Nat.lt_of_lt_of_le (by decide) hhi) (rfl) 6 (by decide) hlink (fun _ h => h) rfl hdg kk
theorem gf2_rightFactor (C : Cx p s m args meth c cc nL own ret D aC) (hlo : lo ≤ 0) (hhi : 304 ≤ hi) {idx : Nat} (hlink : Cond.fieldLink own idx "SplitTowers$Field" "rightFactor" "LSplitTowers$Poly;" ∈ WS) (hdg : decode cc pc = .ok (.getfield idx, 3)) (kk : V p l e R s m args below meth c D aC B lo hi nL Q σ (pc + 3) lv (.ref (B + 46) :: st)) : V p l e R s m args below meth c D aC B lo hi nL Q σ pc lv (.ref (B + 33) :: st) :=
  v_get C (ci := 2) inX2 rfl (Nat.le_trans hlo (Nat.zero_le _)) (Nat.lt_of_lt_of_le (by decide) hhi) (rfl) 7 (by decide) hlink (fun _ h => h) rfl hdg kk
theorem gf3_states (C : Cx p s m args meth c cc nL own ret D aC) (hlo : lo ≤ 0) (hhi : 304 ≤ hi) {idx : Nat} (hlink : Cond.fieldLink own idx "SplitTowers$History" "states" "[LSplitTowers$State;" ∈ WS) (hdg : decode cc pc = .ok (.getfield idx, 3)) (kk : V p l e R s m args below meth c D aC B lo hi nL Q σ (pc + 3) lv (.ref (B + 185) :: st)) : V p l e R s m args below meth c D aC B lo hi nL Q σ pc lv (.ref (B + 184) :: st) :=
  v_get C (ci := 3) inX3 rfl (Nat.le_trans hlo (Nat.zero_le _)) (Nat.lt_of_lt_of_le (by decide) hhi) (rfl) 0 (by decide) hlink (fun _ h => h) rfl hdg kk
theorem gf3_next (C : Cx p s m args meth c cc nL own ret D aC) (hlo : lo ≤ 0) (hhi : 304 ≤ hi) {idx : Nat} (hlink : Cond.fieldLink own idx "SplitTowers$History" "next" "I" ∈ WS) (hdg : decode cc pc = .ok (.getfield idx, 3)) (kk : V p l e R s m args below meth c D aC B lo hi nL Q σ (pc + 3) lv (.int (iI (σ 184 1)) :: st)) : V p l e R s m args below meth c D aC B lo hi nL Q σ pc lv (.ref (B + 184) :: st) :=
  v_get C (ci := 3) inX3 rfl (Nat.le_trans hlo (Nat.zero_le _)) (Nat.lt_of_lt_of_le (by decide) hhi) (rfl) 1 (by decide) hlink (fun _ h => h) rfl hdg kk
theorem pf3_next (C : Cx p s m args meth c cc nL own ret D aC) (hlo : lo ≤ 0) (hhi : 304 ≤ hi) {x : Int} (hx : inR x) {idx : Nat} (hlink : Cond.fieldLink own idx "SplitTowers$History" "next" "I" ∈ WS) (hdg : decode cc pc = .ok (.putfield idx, 3)) (kk : V p l e R s m args below meth c D aC B lo hi nL Q (ug σ 184 1 x) (pc + 3) lv st) : V p l e R s m args below meth c D aC B lo hi nL Q σ pc lv (.int (iI x) :: .ref (B + 184) :: st) :=
  v_put C (ci := 3) inX3 tyX3 tyX3_ok nmX3 rfl (Nat.le_trans hlo (Nat.zero_le _)) (Nat.lt_of_lt_of_le (by decide) hhi) (rfl) 1 (by decide) hlink (fun _ h => h) rfl (by decide +kernel) (narrow_i _) (fits_i _) (Nat.le_of_ble_eq_true rfl) hx (rfl) hdg kk
theorem gf3_length (C : Cx p s m args meth c cc nL own ret D aC) (hlo : lo ≤ 0) (hhi : 304 ≤ hi) {idx : Nat} (hlink : Cond.fieldLink own idx "SplitTowers$History" "length" "I" ∈ WS) (hdg : decode cc pc = .ok (.getfield idx, 3)) (kk : V p l e R s m args below meth c D aC B lo hi nL Q σ (pc + 3) lv (.int (iI (σ 184 2)) :: st)) : V p l e R s m args below meth c D aC B lo hi nL Q σ pc lv (.ref (B + 184) :: st) :=
  v_get C (ci := 3) inX3 rfl (Nat.le_trans hlo (Nat.zero_le _)) (Nat.lt_of_lt_of_le (by decide) hhi) (rfl) 2 (by decide) hlink (fun _ h => h) rfl hdg kk
theorem pf3_length (C : Cx p s m args meth c cc nL own ret D aC) (hlo : lo ≤ 0) (hhi : 304 ≤ hi) {x : Int} (hx : inR x) {idx : Nat} (hlink : Cond.fieldLink own idx "SplitTowers$History" "length" "I" ∈ WS) (hdg : decode cc pc = .ok (.putfield idx, 3)) (kk : V p l e R s m args below meth c D aC B lo hi nL Q (ug σ 184 2 x) (pc + 3) lv st) : V p l e R s m args below meth c D aC B lo hi nL Q σ pc lv (.int (iI x) :: .ref (B + 184) :: st) :=
  v_put C (ci := 3) inX3 tyX3 tyX3_ok nmX3 rfl (Nat.le_trans hlo (Nat.zero_le _)) (Nat.lt_of_lt_of_le (by decide) hhi) (rfl) 2 (by decide) hlink (fun _ h => h) rfl (by decide +kernel) (narrow_i _) (fits_i _) (Nat.le_of_ble_eq_true rfl) hx (rfl) hdg kk
theorem gf4_coefficients (C : Cx p s m args meth c cc nL own ret D aC) {i : Nat} (pi : PO lo hi i) {idx : Nat} (hlink : Cond.fieldLink own idx "SplitTowers$Poly" "coefficients" "[I" ∈ WS) (hdg : decode cc pc = .ok (.getfield idx, 3)) (kk : V p l e R s m args below meth c D aC B lo hi nL Q σ (pc + 3) lv (.ref (B + (i + 1)) :: st)) : V p l e R s m args below meth c D aC B lo hi nL Q σ pc lv (.ref (B + i) :: st) :=
  v_get C (ci := 4) inX4 rfl (PO.lo pi) (PO.hi pi) (cel_of pi.1) 0 (by decide) hlink (fun _ h => h) rfl hdg kk
theorem gf4_degree (C : Cx p s m args meth c cc nL own ret D aC) {i : Nat} (pi : PO lo hi i) {idx : Nat} (hlink : Cond.fieldLink own idx "SplitTowers$Poly" "degree" "I" ∈ WS) (hdg : decode cc pc = .ok (.getfield idx, 3)) (kk : V p l e R s m args below meth c D aC B lo hi nL Q σ (pc + 3) lv (.int (iI (σ i 1)) :: st)) : V p l e R s m args below meth c D aC B lo hi nL Q σ pc lv (.ref (B + i) :: st) :=
  v_get C (ci := 4) inX4 rfl (PO.lo pi) (PO.hi pi) (cel_of pi.1) 1 (by decide) hlink (fun _ h => h) rfl hdg kk
theorem pf4_degree (C : Cx p s m args meth c cc nL own ret D aC) {i : Nat} (pi : PO lo hi i) {x : Int} (hx : inR x) {idx : Nat} (hlink : Cond.fieldLink own idx "SplitTowers$Poly" "degree" "I" ∈ WS) (hdg : decode cc pc = .ok (.putfield idx, 3)) (kk : V p l e R s m args below meth c D aC B lo hi nL Q (ug σ i 1 x) (pc + 3) lv st) : V p l e R s m args below meth c D aC B lo hi nL Q σ pc lv (.int (iI x) :: .ref (B + i) :: st) :=
  v_put C (ci := 4) inX4 tyX4 tyX4_ok nmX4 rfl (PO.lo pi) (PO.hi pi) (cel_of pi.1) 1 (by decide) hlink (fun _ h => h) rfl (by decide +kernel) (narrow_i _) (fits_i _) (Nat.le_of_ble_eq_true rfl) hx (cel_of pi.1) hdg kk
theorem gf5_state (C : Cx p s m args meth c cc nL own ret D aC) (hlo : lo ≤ 0) (hhi : 304 ≤ hi) {idx : Nat} (hlink : Cond.fieldLink own idx "SplitTowers$Reckoner" "state" "LSplitTowers$State;" ∈ WS) (hdg : decode cc pc = .ok (.getfield idx, 3)) (kk : V p l e R s m args below meth c D aC B lo hi nL Q σ (pc + 3) lv (.ref (B + 1) :: st)) : V p l e R s m args below meth c D aC B lo hi nL Q σ pc lv (.ref (B + 124) :: st) :=
  v_get C (ci := 5) inX5 rfl (Nat.le_trans hlo (Nat.zero_le _)) (Nat.lt_of_lt_of_le (by decide) hhi) (rfl) 0 (by decide) hlink (fun _ h => h) rfl hdg kk
theorem gf5_text (C : Cx p s m args meth c cc nL own ret D aC) (hlo : lo ≤ 0) (hhi : 304 ≤ hi) {idx : Nat} (hlink : Cond.fieldLink own idx "SplitTowers$Reckoner" "text" "LSplitTowers$Text;" ∈ WS) (hdg : decode cc pc = .ok (.getfield idx, 3)) (kk : V p l e R s m args below meth c D aC B lo hi nL Q σ (pc + 3) lv (.ref (B + 30) :: st)) : V p l e R s m args below meth c D aC B lo hi nL Q σ pc lv (.ref (B + 124) :: st) :=
  v_get C (ci := 5) inX5 rfl (Nat.le_trans hlo (Nat.zero_le _)) (Nat.lt_of_lt_of_le (by decide) hhi) (rfl) 1 (by decide) hlink (fun _ h => h) rfl hdg kk
theorem gf5_ring (C : Cx p s m args meth c cc nL own ret D aC) (hlo : lo ≤ 0) (hhi : 304 ≤ hi) {idx : Nat} (hlink : Cond.fieldLink own idx "SplitTowers$Reckoner" "ring" "LSplitTowers$Ring;" ∈ WS) (hdg : decode cc pc = .ok (.getfield idx, 3)) (kk : V p l e R s m args below meth c D aC B lo hi nL Q σ (pc + 3) lv (.ref (B + 48) :: st)) : V p l e R s m args below meth c D aC B lo hi nL Q σ pc lv (.ref (B + 124) :: st) :=
  v_get C (ci := 5) inX5 rfl (Nat.le_trans hlo (Nat.zero_le _)) (Nat.lt_of_lt_of_le (by decide) hhi) (rfl) 2 (by decide) hlink (fun _ h => h) rfl hdg kk
theorem gf5_branching (C : Cx p s m args meth c cc nL own ret D aC) (hlo : lo ≤ 0) (hhi : 304 ≤ hi) {idx : Nat} (hlink : Cond.fieldLink own idx "SplitTowers$Reckoner" "branching" "LSplitTowers$Branching;" ∈ WS) (hdg : decode cc pc = .ok (.getfield idx, 3)) (kk : V p l e R s m args below meth c D aC B lo hi nL Q σ (pc + 3) lv (.ref (B + 91) :: st)) : V p l e R s m args below meth c D aC B lo hi nL Q σ pc lv (.ref (B + 124) :: st) :=
  v_get C (ci := 5) inX5 rfl (Nat.le_trans hlo (Nat.zero_le _)) (Nat.lt_of_lt_of_le (by decide) hhi) (rfl) 3 (by decide) hlink (fun _ h => h) rfl hdg kk
theorem gf5_sums (C : Cx p s m args meth c cc nL own ret D aC) (hlo : lo ≤ 0) (hhi : 304 ≤ hi) {idx : Nat} (hlink : Cond.fieldLink own idx "SplitTowers$Reckoner" "sums" "[LSplitTowers$Poly;" ∈ WS) (hdg : decode cc pc = .ok (.getfield idx, 3)) (kk : V p l e R s m args below meth c D aC B lo hi nL Q σ (pc + 3) lv (.ref (B + 125) :: st)) : V p l e R s m args below meth c D aC B lo hi nL Q σ pc lv (.ref (B + 124) :: st) :=
  v_get C (ci := 5) inX5 rfl (Nat.le_trans hlo (Nat.zero_le _)) (Nat.lt_of_lt_of_le (by decide) hhi) (rfl) 4 (by decide) hlink (fun _ h => h) rfl hdg kk
theorem gf5_products (C : Cx p s m args meth c cc nL own ret D aC) (hlo : lo ≤ 0) (hhi : 304 ≤ hi) {idx : Nat} (hlink : Cond.fieldLink own idx "SplitTowers$Reckoner" "products" "[LSplitTowers$Poly;" ∈ WS) (hdg : decode cc pc = .ok (.getfield idx, 3)) (kk : V p l e R s m args below meth c D aC B lo hi nL Q σ (pc + 3) lv (.ref (B + 126) :: st)) : V p l e R s m args below meth c D aC B lo hi nL Q σ pc lv (.ref (B + 124) :: st) :=
  v_get C (ci := 5) inX5 rfl (Nat.le_trans hlo (Nat.zero_le _)) (Nat.lt_of_lt_of_le (by decide) hhi) (rfl) 5 (by decide) hlink (fun _ h => h) rfl hdg kk
theorem gf5_minus (C : Cx p s m args meth c cc nL own ret D aC) (hlo : lo ≤ 0) (hhi : 304 ≤ hi) {idx : Nat} (hlink : Cond.fieldLink own idx "SplitTowers$Reckoner" "minus" "[Z" ∈ WS) (hdg : decode cc pc = .ok (.getfield idx, 3)) (kk : V p l e R s m args below meth c D aC B lo hi nL Q σ (pc + 3) lv (.ref (B + 151) :: st)) : V p l e R s m args below meth c D aC B lo hi nL Q σ pc lv (.ref (B + 124) :: st) :=
  v_get C (ci := 5) inX5 rfl (Nat.le_trans hlo (Nat.zero_le _)) (Nat.lt_of_lt_of_le (by decide) hhi) (rfl) 6 (by decide) hlink (fun _ h => h) rfl hdg kk
theorem gf5_over (C : Cx p s m args meth c cc nL own ret D aC) (hlo : lo ≤ 0) (hhi : 304 ≤ hi) {idx : Nat} (hlink : Cond.fieldLink own idx "SplitTowers$Reckoner" "over" "[Z" ∈ WS) (hdg : decode cc pc = .ok (.getfield idx, 3)) (kk : V p l e R s m args below meth c D aC B lo hi nL Q σ (pc + 3) lv (.ref (B + 152) :: st)) : V p l e R s m args below meth c D aC B lo hi nL Q σ pc lv (.ref (B + 124) :: st) :=
  v_get C (ci := 5) inX5 rfl (Nat.le_trans hlo (Nat.zero_le _)) (Nat.lt_of_lt_of_le (by decide) hhi) (rfl) 7 (by decide) hlink (fun _ h => h) rfl hdg kk
theorem gf5_factor (C : Cx p s m args meth c cc nL own ret D aC) (hlo : lo ≤ 0) (hhi : 304 ≤ hi) {idx : Nat} (hlink : Cond.fieldLink own idx "SplitTowers$Reckoner" "factor" "LSplitTowers$Poly;" ∈ WS) (hdg : decode cc pc = .ok (.getfield idx, 3)) (kk : V p l e R s m args below meth c D aC B lo hi nL Q σ (pc + 3) lv (.ref (B + 153) :: st)) : V p l e R s m args below meth c D aC B lo hi nL Q σ pc lv (.ref (B + 124) :: st) :=
  v_get C (ci := 5) inX5 rfl (Nat.le_trans hlo (Nat.zero_le _)) (Nat.lt_of_lt_of_le (by decide) hhi) (rfl) 8 (by decide) hlink (fun _ h => h) rfl hdg kk
theorem gf5_level (C : Cx p s m args meth c cc nL own ret D aC) (hlo : lo ≤ 0) (hhi : 304 ≤ hi) {idx : Nat} (hlink : Cond.fieldLink own idx "SplitTowers$Reckoner" "level" "I" ∈ WS) (hdg : decode cc pc = .ok (.getfield idx, 3)) (kk : V p l e R s m args below meth c D aC B lo hi nL Q σ (pc + 3) lv (.int (iI (σ 124 9)) :: st)) : V p l e R s m args below meth c D aC B lo hi nL Q σ pc lv (.ref (B + 124) :: st) :=
  v_get C (ci := 5) inX5 rfl (Nat.le_trans hlo (Nat.zero_le _)) (Nat.lt_of_lt_of_le (by decide) hhi) (rfl) 9 (by decide) hlink (fun _ h => h) rfl hdg kk
theorem pf5_level (C : Cx p s m args meth c cc nL own ret D aC) (hlo : lo ≤ 0) (hhi : 304 ≤ hi) {x : Int} (hx : inR x) {idx : Nat} (hlink : Cond.fieldLink own idx "SplitTowers$Reckoner" "level" "I" ∈ WS) (hdg : decode cc pc = .ok (.putfield idx, 3)) (kk : V p l e R s m args below meth c D aC B lo hi nL Q (ug σ 124 9 x) (pc + 3) lv st) : V p l e R s m args below meth c D aC B lo hi nL Q σ pc lv (.int (iI x) :: .ref (B + 124) :: st) :=
  v_put C (ci := 5) inX5 tyX5 tyX5_ok nmX5 rfl (Nat.le_trans hlo (Nat.zero_le _)) (Nat.lt_of_lt_of_le (by decide) hhi) (rfl) 9 (by decide) hlink (fun _ h => h) rfl (by decide +kernel) (narrow_i _) (fits_i _) (Nat.le_of_ble_eq_true rfl) hx (rfl) hdg kk
theorem gf6_state (C : Cx p s m args meth c cc nL own ret D aC) (hlo : lo ≤ 0) (hhi : 304 ≤ hi) {idx : Nat} (hlink : Cond.fieldLink own idx "SplitTowers$Ring" "state" "LSplitTowers$State;" ∈ WS) (hdg : decode cc pc = .ok (.getfield idx, 3)) (kk : V p l e R s m args below meth c D aC B lo hi nL Q σ (pc + 3) lv (.ref (B + 1) :: st)) : V p l e R s m args below meth c D aC B lo hi nL Q σ pc lv (.ref (B + 48) :: st) :=
  v_get C (ci := 6) inX6 rfl (Nat.le_trans hlo (Nat.zero_le _)) (Nat.lt_of_lt_of_le (by decide) hhi) (rfl) 0 (by decide) hlink (fun _ h => h) rfl hdg kk
theorem gf6_field (C : Cx p s m args meth c cc nL own ret D aC) (hlo : lo ≤ 0) (hhi : 304 ≤ hi) {idx : Nat} (hlink : Cond.fieldLink own idx "SplitTowers$Ring" "field" "LSplitTowers$Field;" ∈ WS) (hdg : decode cc pc = .ok (.getfield idx, 3)) (kk : V p l e R s m args below meth c D aC B lo hi nL Q σ (pc + 3) lv (.ref (B + 33) :: st)) : V p l e R s m args below meth c D aC B lo hi nL Q σ pc lv (.ref (B + 48) :: st) :=
  v_get C (ci := 6) inX6 rfl (Nat.le_trans hlo (Nat.zero_le _)) (Nat.lt_of_lt_of_le (by decide) hhi) (rfl) 1 (by decide) hlink (fun _ h => h) rfl hdg kk
theorem gf6_quotient (C : Cx p s m args meth c cc nL own ret D aC) (hlo : lo ≤ 0) (hhi : 304 ≤ hi) {idx : Nat} (hlink : Cond.fieldLink own idx "SplitTowers$Ring" "quotient" "LSplitTowers$Poly;" ∈ WS) (hdg : decode cc pc = .ok (.getfield idx, 3)) (kk : V p l e R s m args below meth c D aC B lo hi nL Q σ (pc + 3) lv (.ref (B + 49) :: st)) : V p l e R s m args below meth c D aC B lo hi nL Q σ pc lv (.ref (B + 48) :: st) :=
  v_get C (ci := 6) inX6 rfl (Nat.le_trans hlo (Nat.zero_le _)) (Nat.lt_of_lt_of_le (by decide) hhi) (rfl) 2 (by decide) hlink (fun _ h => h) rfl hdg kk
theorem gf6_square (C : Cx p s m args meth c cc nL own ret D aC) (hlo : lo ≤ 0) (hhi : 304 ≤ hi) {idx : Nat} (hlink : Cond.fieldLink own idx "SplitTowers$Ring" "square" "LSplitTowers$Poly;" ∈ WS) (hdg : decode cc pc = .ok (.getfield idx, 3)) (kk : V p l e R s m args below meth c D aC B lo hi nL Q σ (pc + 3) lv (.ref (B + 51) :: st)) : V p l e R s m args below meth c D aC B lo hi nL Q σ pc lv (.ref (B + 48) :: st) :=
  v_get C (ci := 6) inX6 rfl (Nat.le_trans hlo (Nat.zero_le _)) (Nat.lt_of_lt_of_le (by decide) hhi) (rfl) 3 (by decide) hlink (fun _ h => h) rfl hdg kk
theorem gf6_common (C : Cx p s m args meth c cc nL own ret D aC) (hlo : lo ≤ 0) (hhi : 304 ≤ hi) {idx : Nat} (hlink : Cond.fieldLink own idx "SplitTowers$Ring" "common" "LSplitTowers$Poly;" ∈ WS) (hdg : decode cc pc = .ok (.getfield idx, 3)) (kk : V p l e R s m args below meth c D aC B lo hi nL Q σ (pc + 3) lv (.ref (B + 53) :: st)) : V p l e R s m args below meth c D aC B lo hi nL Q σ pc lv (.ref (B + 48) :: st) :=
  v_get C (ci := 6) inX6 rfl (Nat.le_trans hlo (Nat.zero_le _)) (Nat.lt_of_lt_of_le (by decide) hhi) (rfl) 4 (by decide) hlink (fun _ h => h) rfl hdg kk
theorem gf6_cofactor (C : Cx p s m args meth c cc nL own ret D aC) (hlo : lo ≤ 0) (hhi : 304 ≤ hi) {idx : Nat} (hlink : Cond.fieldLink own idx "SplitTowers$Ring" "cofactor" "LSplitTowers$Poly;" ∈ WS) (hdg : decode cc pc = .ok (.getfield idx, 3)) (kk : V p l e R s m args below meth c D aC B lo hi nL Q σ (pc + 3) lv (.ref (B + 55) :: st)) : V p l e R s m args below meth c D aC B lo hi nL Q σ pc lv (.ref (B + 48) :: st) :=
  v_get C (ci := 6) inX6 rfl (Nat.le_trans hlo (Nat.zero_le _)) (Nat.lt_of_lt_of_le (by decide) hhi) (rfl) 5 (by decide) hlink (fun _ h => h) rfl hdg kk
theorem gf6_inverse (C : Cx p s m args meth c cc nL own ret D aC) (hlo : lo ≤ 0) (hhi : 304 ≤ hi) {idx : Nat} (hlink : Cond.fieldLink own idx "SplitTowers$Ring" "inverse" "LSplitTowers$Poly;" ∈ WS) (hdg : decode cc pc = .ok (.getfield idx, 3)) (kk : V p l e R s m args below meth c D aC B lo hi nL Q σ (pc + 3) lv (.ref (B + 57) :: st)) : V p l e R s m args below meth c D aC B lo hi nL Q σ pc lv (.ref (B + 48) :: st) :=
  v_get C (ci := 6) inX6 rfl (Nat.le_trans hlo (Nat.zero_le _)) (Nat.lt_of_lt_of_le (by decide) hhi) (rfl) 6 (by decide) hlink (fun _ h => h) rfl hdg kk
theorem gf6_work (C : Cx p s m args meth c cc nL own ret D aC) (hlo : lo ≤ 0) (hhi : 304 ≤ hi) {idx : Nat} (hlink : Cond.fieldLink own idx "SplitTowers$Ring" "work" "LSplitTowers$Poly;" ∈ WS) (hdg : decode cc pc = .ok (.getfield idx, 3)) (kk : V p l e R s m args below meth c D aC B lo hi nL Q σ (pc + 3) lv (.ref (B + 59) :: st)) : V p l e R s m args below meth c D aC B lo hi nL Q σ pc lv (.ref (B + 48) :: st) :=
  v_get C (ci := 6) inX6 rfl (Nat.le_trans hlo (Nat.zero_le _)) (Nat.lt_of_lt_of_le (by decide) hhi) (rfl) 7 (by decide) hlink (fun _ h => h) rfl hdg kk
theorem gf6_vector (C : Cx p s m args meth c cc nL own ret D aC) (hlo : lo ≤ 0) (hhi : 304 ≤ hi) {idx : Nat} (hlink : Cond.fieldLink own idx "SplitTowers$Ring" "vector" "LSplitTowers$Poly;" ∈ WS) (hdg : decode cc pc = .ok (.getfield idx, 3)) (kk : V p l e R s m args below meth c D aC B lo hi nL Q σ (pc + 3) lv (.ref (B + 61) :: st)) : V p l e R s m args below meth c D aC B lo hi nL Q σ pc lv (.ref (B + 48) :: st) :=
  v_get C (ci := 6) inX6 rfl (Nat.le_trans hlo (Nat.zero_le _)) (Nat.lt_of_lt_of_le (by decide) hhi) (rfl) 8 (by decide) hlink (fun _ h => h) rfl hdg kk
theorem gf6_relation (C : Cx p s m args meth c cc nL own ret D aC) (hlo : lo ≤ 0) (hhi : 304 ≤ hi) {idx : Nat} (hlink : Cond.fieldLink own idx "SplitTowers$Ring" "relation" "LSplitTowers$Poly;" ∈ WS) (hdg : decode cc pc = .ok (.getfield idx, 3)) (kk : V p l e R s m args below meth c D aC B lo hi nL Q σ (pc + 3) lv (.ref (B + 63) :: st)) : V p l e R s m args below meth c D aC B lo hi nL Q σ pc lv (.ref (B + 48) :: st) :=
  v_get C (ci := 6) inX6 rfl (Nat.le_trans hlo (Nat.zero_le _)) (Nat.lt_of_lt_of_le (by decide) hhi) (rfl) 9 (by decide) hlink (fun _ h => h) rfl hdg kk
theorem gf6_rows (C : Cx p s m args meth c cc nL own ret D aC) (hlo : lo ≤ 0) (hhi : 304 ≤ hi) {idx : Nat} (hlink : Cond.fieldLink own idx "SplitTowers$Ring" "rows" "[LSplitTowers$Poly;" ∈ WS) (hdg : decode cc pc = .ok (.getfield idx, 3)) (kk : V p l e R s m args below meth c D aC B lo hi nL Q σ (pc + 3) lv (.ref (B + 65) :: st)) : V p l e R s m args below meth c D aC B lo hi nL Q σ pc lv (.ref (B + 48) :: st) :=
  v_get C (ci := 6) inX6 rfl (Nat.le_trans hlo (Nat.zero_le _)) (Nat.lt_of_lt_of_le (by decide) hhi) (rfl) 10 (by decide) hlink (fun _ h => h) rfl hdg kk
theorem gf6_relations (C : Cx p s m args meth c cc nL own ret D aC) (hlo : lo ≤ 0) (hhi : 304 ≤ hi) {idx : Nat} (hlink : Cond.fieldLink own idx "SplitTowers$Ring" "relations" "[LSplitTowers$Poly;" ∈ WS) (hdg : decode cc pc = .ok (.getfield idx, 3)) (kk : V p l e R s m args below meth c D aC B lo hi nL Q σ (pc + 3) lv (.ref (B + 66) :: st)) : V p l e R s m args below meth c D aC B lo hi nL Q σ pc lv (.ref (B + 48) :: st) :=
  v_get C (ci := 6) inX6 rfl (Nat.le_trans hlo (Nat.zero_le _)) (Nat.lt_of_lt_of_le (by decide) hhi) (rfl) 11 (by decide) hlink (fun _ h => h) rfl hdg kk
theorem gf7_prime (C : Cx p s m args meth c cc nL own ret D aC) {i : Nat} (pi : SO lo hi i) {idx : Nat} (hlink : Cond.fieldLink own idx "SplitTowers$State" "prime" "I" ∈ WS) (hdg : decode cc pc = .ok (.getfield idx, 3)) (kk : V p l e R s m args below meth c D aC B lo hi nL Q σ (pc + 3) lv (.int (iI (σ i 0)) :: st)) : V p l e R s m args below meth c D aC B lo hi nL Q σ pc lv (.ref (B + i) :: st) :=
  v_get C (ci := 7) inX7 rfl (SO.lo pi) (SO.hi pi) (cel_of pi.1) 0 (by decide) hlink (fun _ h => h) rfl hdg kk
theorem pf7_prime (C : Cx p s m args meth c cc nL own ret D aC) {i : Nat} (pi : SO lo hi i) {x : Int} (hx : inR x) {idx : Nat} (hlink : Cond.fieldLink own idx "SplitTowers$State" "prime" "I" ∈ WS) (hdg : decode cc pc = .ok (.putfield idx, 3)) (kk : V p l e R s m args below meth c D aC B lo hi nL Q (ug σ i 0 x) (pc + 3) lv st) : V p l e R s m args below meth c D aC B lo hi nL Q σ pc lv (.int (iI x) :: .ref (B + i) :: st) :=
  v_put C (ci := 7) inX7 tyX7 tyX7_ok nmX7 rfl (SO.lo pi) (SO.hi pi) (cel_of pi.1) 0 (by decide) hlink (fun _ h => h) rfl (by decide +kernel) (narrow_i _) (fits_i _) (Nat.le_of_ble_eq_true rfl) hx (cel_of pi.1) hdg kk
theorem gf7_modulus (C : Cx p s m args meth c cc nL own ret D aC) {i : Nat} (pi : SO lo hi i) {idx : Nat} (hlink : Cond.fieldLink own idx "SplitTowers$State" "modulus" "LSplitTowers$Poly;" ∈ WS) (hdg : decode cc pc = .ok (.getfield idx, 3)) (kk : V p l e R s m args below meth c D aC B lo hi nL Q σ (pc + 3) lv (.ref (B + (i + 1)) :: st)) : V p l e R s m args below meth c D aC B lo hi nL Q σ pc lv (.ref (B + i) :: st) :=
  v_get C (ci := 7) inX7 rfl (SO.lo pi) (SO.hi pi) (cel_of pi.1) 1 (by decide) hlink (fun _ h => h) rfl hdg kk
theorem gf7_registers (C : Cx p s m args meth c cc nL own ret D aC) {i : Nat} (pi : SO lo hi i) {idx : Nat} (hlink : Cond.fieldLink own idx "SplitTowers$State" "registers" "[LSplitTowers$Poly;" ∈ WS) (hdg : decode cc pc = .ok (.getfield idx, 3)) (kk : V p l e R s m args below meth c D aC B lo hi nL Q σ (pc + 3) lv (.ref (B + (i + 3)) :: st)) : V p l e R s m args below meth c D aC B lo hi nL Q σ pc lv (.ref (B + i) :: st) :=
  v_get C (ci := 7) inX7 rfl (SO.lo pi) (SO.hi pi) (cel_of pi.1) 2 (by decide) hlink (fun _ h => h) rfl hdg kk
theorem gf7_branches (C : Cx p s m args meth c cc nL own ret D aC) {i : Nat} (pi : SO lo hi i) {idx : Nat} (hlink : Cond.fieldLink own idx "SplitTowers$State" "branches" "[LSplitTowers$Poly;" ∈ WS) (hdg : decode cc pc = .ok (.getfield idx, 3)) (kk : V p l e R s m args below meth c D aC B lo hi nL Q σ (pc + 3) lv (.ref (B + (i + 16)) :: st)) : V p l e R s m args below meth c D aC B lo hi nL Q σ pc lv (.ref (B + i) :: st) :=
  v_get C (ci := 7) inX7 rfl (SO.lo pi) (SO.hi pi) (cel_of pi.1) 3 (by decide) hlink (fun _ h => h) rfl hdg kk
theorem gf7_branchCount (C : Cx p s m args meth c cc nL own ret D aC) {i : Nat} (pi : SO lo hi i) {idx : Nat} (hlink : Cond.fieldLink own idx "SplitTowers$State" "branchCount" "I" ∈ WS) (hdg : decode cc pc = .ok (.getfield idx, 3)) (kk : V p l e R s m args below meth c D aC B lo hi nL Q σ (pc + 3) lv (.int (iI (σ i 4)) :: st)) : V p l e R s m args below meth c D aC B lo hi nL Q σ pc lv (.ref (B + i) :: st) :=
  v_get C (ci := 7) inX7 rfl (SO.lo pi) (SO.hi pi) (cel_of pi.1) 4 (by decide) hlink (fun _ h => h) rfl hdg kk
theorem pf7_branchCount (C : Cx p s m args meth c cc nL own ret D aC) {i : Nat} (pi : SO lo hi i) {x : Int} (hx : inR x) {idx : Nat} (hlink : Cond.fieldLink own idx "SplitTowers$State" "branchCount" "I" ∈ WS) (hdg : decode cc pc = .ok (.putfield idx, 3)) (kk : V p l e R s m args below meth c D aC B lo hi nL Q (ug σ i 4 x) (pc + 3) lv st) : V p l e R s m args below meth c D aC B lo hi nL Q σ pc lv (.int (iI x) :: .ref (B + i) :: st) :=
  v_put C (ci := 7) inX7 tyX7 tyX7_ok nmX7 rfl (SO.lo pi) (SO.hi pi) (cel_of pi.1) 4 (by decide) hlink (fun _ h => h) rfl (by decide +kernel) (narrow_i _) (fits_i _) (Nat.le_of_ble_eq_true rfl) hx (cel_of pi.1) hdg kk
theorem gf8_characters (C : Cx p s m args meth c cc nL own ret D aC) (hlo : lo ≤ 0) (hhi : 304 ≤ hi) {idx : Nat} (hlink : Cond.fieldLink own idx "SplitTowers$Text" "characters" "[I" ∈ WS) (hdg : decode cc pc = .ok (.getfield idx, 3)) (kk : V p l e R s m args below meth c D aC B lo hi nL Q σ (pc + 3) lv (.ref (B + 31) :: st)) : V p l e R s m args below meth c D aC B lo hi nL Q σ pc lv (.ref (B + 30) :: st) :=
  v_get C (ci := 8) inX8 rfl (Nat.le_trans hlo (Nat.zero_le _)) (Nat.lt_of_lt_of_le (by decide) hhi) (rfl) 0 (by decide) hlink (fun _ h => h) rfl hdg kk
theorem gf8_length (C : Cx p s m args meth c cc nL own ret D aC) (hlo : lo ≤ 0) (hhi : 304 ≤ hi) {idx : Nat} (hlink : Cond.fieldLink own idx "SplitTowers$Text" "length" "I" ∈ WS) (hdg : decode cc pc = .ok (.getfield idx, 3)) (kk : V p l e R s m args below meth c D aC B lo hi nL Q σ (pc + 3) lv (.int (iI (σ 30 1)) :: st)) : V p l e R s m args below meth c D aC B lo hi nL Q σ pc lv (.ref (B + 30) :: st) :=
  v_get C (ci := 8) inX8 rfl (Nat.le_trans hlo (Nat.zero_le _)) (Nat.lt_of_lt_of_le (by decide) hhi) (rfl) 1 (by decide) hlink (fun _ h => h) rfl hdg kk
theorem pf8_length (C : Cx p s m args meth c cc nL own ret D aC) (hlo : lo ≤ 0) (hhi : 304 ≤ hi) {x : Int} (hx : inR x) {idx : Nat} (hlink : Cond.fieldLink own idx "SplitTowers$Text" "length" "I" ∈ WS) (hdg : decode cc pc = .ok (.putfield idx, 3)) (kk : V p l e R s m args below meth c D aC B lo hi nL Q (ug σ 30 1 x) (pc + 3) lv st) : V p l e R s m args below meth c D aC B lo hi nL Q σ pc lv (.int (iI x) :: .ref (B + 30) :: st) :=
  v_put C (ci := 8) inX8 tyX8 tyX8_ok nmX8 rfl (Nat.le_trans hlo (Nat.zero_le _)) (Nat.lt_of_lt_of_le (by decide) hhi) (rfl) 1 (by decide) hlink (fun _ h => h) rfl (by decide +kernel) (narrow_i _) (fits_i _) (Nat.le_of_ble_eq_true rfl) hx (rfl) hdg kk
theorem gf8_told (C : Cx p s m args meth c cc nL own ret D aC) (hlo : lo ≤ 0) (hhi : 304 ≤ hi) {idx : Nat} (hlink : Cond.fieldLink own idx "SplitTowers$Text" "told" "[I" ∈ WS) (hdg : decode cc pc = .ok (.getfield idx, 3)) (kk : V p l e R s m args below meth c D aC B lo hi nL Q σ (pc + 3) lv (.ref (B + 32) :: st)) : V p l e R s m args below meth c D aC B lo hi nL Q σ pc lv (.ref (B + 30) :: st) :=
  v_get C (ci := 8) inX8 rfl (Nat.le_trans hlo (Nat.zero_le _)) (Nat.lt_of_lt_of_le (by decide) hhi) (rfl) 2 (by decide) hlink (fun _ h => h) rfl hdg kk
theorem gf8_toldCount (C : Cx p s m args meth c cc nL own ret D aC) (hlo : lo ≤ 0) (hhi : 304 ≤ hi) {idx : Nat} (hlink : Cond.fieldLink own idx "SplitTowers$Text" "toldCount" "I" ∈ WS) (hdg : decode cc pc = .ok (.getfield idx, 3)) (kk : V p l e R s m args below meth c D aC B lo hi nL Q σ (pc + 3) lv (.int (iI (σ 30 3)) :: st)) : V p l e R s m args below meth c D aC B lo hi nL Q σ pc lv (.ref (B + 30) :: st) :=
  v_get C (ci := 8) inX8 rfl (Nat.le_trans hlo (Nat.zero_le _)) (Nat.lt_of_lt_of_le (by decide) hhi) (rfl) 3 (by decide) hlink (fun _ h => h) rfl hdg kk
theorem pf8_toldCount (C : Cx p s m args meth c cc nL own ret D aC) (hlo : lo ≤ 0) (hhi : 304 ≤ hi) {x : Int} (hx : inR x) {idx : Nat} (hlink : Cond.fieldLink own idx "SplitTowers$Text" "toldCount" "I" ∈ WS) (hdg : decode cc pc = .ok (.putfield idx, 3)) (kk : V p l e R s m args below meth c D aC B lo hi nL Q (ug σ 30 3 x) (pc + 3) lv st) : V p l e R s m args below meth c D aC B lo hi nL Q σ pc lv (.int (iI x) :: .ref (B + 30) :: st) :=
  v_put C (ci := 8) inX8 tyX8 tyX8_ok nmX8 rfl (Nat.le_trans hlo (Nat.zero_le _)) (Nat.lt_of_lt_of_le (by decide) hhi) (rfl) 3 (by decide) hlink (fun _ h => h) rfl (by decide +kernel) (narrow_i _) (fits_i _) (Nat.le_of_ble_eq_true rfl) hx (rfl) hdg kk
theorem gf9_now (C : Cx p s m args meth c cc nL own ret D aC) (hlo : lo ≤ 0) (hhi : 304 ≤ hi) {idx : Nat} (hlink : Cond.fieldLink own idx "SplitTowers" "now" "LSplitTowers$State;" ∈ WS) (hdg : decode cc pc = .ok (.getfield idx, 3)) (kk : V p l e R s m args below meth c D aC B lo hi nL Q σ (pc + 3) lv (.ref (B + 1) :: st)) : V p l e R s m args below meth c D aC B lo hi nL Q σ pc lv (.ref (B + 0) :: st) :=
  v_get C (ci := 9) inX9 rfl (Nat.le_trans hlo (Nat.zero_le _)) (Nat.lt_of_lt_of_le (by decide) hhi) (rfl) 0 (by decide) hlink (fun _ h => h) rfl hdg kk
theorem gf9_snapshot (C : Cx p s m args meth c cc nL own ret D aC) (hlo : lo ≤ 0) (hhi : 304 ≤ hi) {idx : Nat} (hlink : Cond.fieldLink own idx "SplitTowers" "snapshot" "LSplitTowers$State;" ∈ WS) (hdg : decode cc pc = .ok (.getfield idx, 3)) (kk : V p l e R s m args below meth c D aC B lo hi nL Q σ (pc + 3) lv (.ref (B + 155) :: st)) : V p l e R s m args below meth c D aC B lo hi nL Q σ pc lv (.ref (B + 0) :: st) :=
  v_get C (ci := 9) inX9 rfl (Nat.le_trans hlo (Nat.zero_le _)) (Nat.lt_of_lt_of_le (by decide) hhi) (rfl) 1 (by decide) hlink (fun _ h => h) rfl hdg kk
theorem gf9_kept (C : Cx p s m args meth c cc nL own ret D aC) (hlo : lo ≤ 0) (hhi : 304 ≤ hi) {idx : Nat} (hlink : Cond.fieldLink own idx "SplitTowers" "kept" "Z" ∈ WS) (hdg : decode cc pc = .ok (.getfield idx, 3)) (kk : V p l e R s m args below meth c D aC B lo hi nL Q σ (pc + 3) lv (.int (iI (σ 0 2)) :: st)) : V p l e R s m args below meth c D aC B lo hi nL Q σ pc lv (.ref (B + 0) :: st) :=
  v_get C (ci := 9) inX9 rfl (Nat.le_trans hlo (Nat.zero_le _)) (Nat.lt_of_lt_of_le (by decide) hhi) (rfl) 2 (by decide) hlink (fun _ h => h) rfl hdg kk
theorem pf9_kept (C : Cx p s m args meth c cc nL own ret D aC) (hlo : lo ≤ 0) (hhi : 304 ≤ hi) {x : Int} (hx : inR x) (hz : x = 0 ∨ x = 1) {idx : Nat} (hlink : Cond.fieldLink own idx "SplitTowers" "kept" "Z" ∈ WS) (hdg : decode cc pc = .ok (.putfield idx, 3)) (kk : V p l e R s m args below meth c D aC B lo hi nL Q (ug σ 0 2 x) (pc + 3) lv st) : V p l e R s m args below meth c D aC B lo hi nL Q σ pc lv (.int (iI x) :: .ref (B + 0) :: st) :=
  v_put C (ci := 9) inX9 tyX9 tyX9_ok nmX9 rfl (Nat.le_trans hlo (Nat.zero_le _)) (Nat.lt_of_lt_of_le (by decide) hhi) (rfl) 2 (by decide) hlink (fun _ h => h) rfl (by decide +kernel) (narrow_z hz) (fits_z hz) (Nat.le_of_ble_eq_true rfl) hx (rfl) hdg kk
theorem gf9_history (C : Cx p s m args meth c cc nL own ret D aC) (hlo : lo ≤ 0) (hhi : 304 ≤ hi) {idx : Nat} (hlink : Cond.fieldLink own idx "SplitTowers" "history" "LSplitTowers$History;" ∈ WS) (hdg : decode cc pc = .ok (.getfield idx, 3)) (kk : V p l e R s m args below meth c D aC B lo hi nL Q σ (pc + 3) lv (.ref (B + 184) :: st)) : V p l e R s m args below meth c D aC B lo hi nL Q σ pc lv (.ref (B + 0) :: st) :=
  v_get C (ci := 9) inX9 rfl (Nat.le_trans hlo (Nat.zero_le _)) (Nat.lt_of_lt_of_le (by decide) hhi) (rfl) 3 (by decide) hlink (fun _ h => h) rfl hdg kk
theorem gf9_text (C : Cx p s m args meth c cc nL own ret D aC) (hlo : lo ≤ 0) (hhi : 304 ≤ hi) {idx : Nat} (hlink : Cond.fieldLink own idx "SplitTowers" "text" "LSplitTowers$Text;" ∈ WS) (hdg : decode cc pc = .ok (.getfield idx, 3)) (kk : V p l e R s m args below meth c D aC B lo hi nL Q σ (pc + 3) lv (.ref (B + 30) :: st)) : V p l e R s m args below meth c D aC B lo hi nL Q σ pc lv (.ref (B + 0) :: st) :=
  v_get C (ci := 9) inX9 rfl (Nat.le_trans hlo (Nat.zero_le _)) (Nat.lt_of_lt_of_le (by decide) hhi) (rfl) 4 (by decide) hlink (fun _ h => h) rfl hdg kk
theorem gf9_field (C : Cx p s m args meth c cc nL own ret D aC) (hlo : lo ≤ 0) (hhi : 304 ≤ hi) {idx : Nat} (hlink : Cond.fieldLink own idx "SplitTowers" "field" "LSplitTowers$Field;" ∈ WS) (hdg : decode cc pc = .ok (.getfield idx, 3)) (kk : V p l e R s m args below meth c D aC B lo hi nL Q σ (pc + 3) lv (.ref (B + 33) :: st)) : V p l e R s m args below meth c D aC B lo hi nL Q σ pc lv (.ref (B + 0) :: st) :=
  v_get C (ci := 9) inX9 rfl (Nat.le_trans hlo (Nat.zero_le _)) (Nat.lt_of_lt_of_le (by decide) hhi) (rfl) 5 (by decide) hlink (fun _ h => h) rfl hdg kk
theorem gf9_ring (C : Cx p s m args meth c cc nL own ret D aC) (hlo : lo ≤ 0) (hhi : 304 ≤ hi) {idx : Nat} (hlink : Cond.fieldLink own idx "SplitTowers" "ring" "LSplitTowers$Ring;" ∈ WS) (hdg : decode cc pc = .ok (.getfield idx, 3)) (kk : V p l e R s m args below meth c D aC B lo hi nL Q σ (pc + 3) lv (.ref (B + 48) :: st)) : V p l e R s m args below meth c D aC B lo hi nL Q σ pc lv (.ref (B + 0) :: st) :=
  v_get C (ci := 9) inX9 rfl (Nat.le_trans hlo (Nat.zero_le _)) (Nat.lt_of_lt_of_le (by decide) hhi) (rfl) 6 (by decide) hlink (fun _ h => h) rfl hdg kk
theorem gf9_degrees (C : Cx p s m args meth c cc nL own ret D aC) (hlo : lo ≤ 0) (hhi : 304 ≤ hi) {idx : Nat} (hlink : Cond.fieldLink own idx "SplitTowers" "degrees" "LSplitTowers$Degrees;" ∈ WS) (hdg : decode cc pc = .ok (.getfield idx, 3)) (kk : V p l e R s m args below meth c D aC B lo hi nL Q σ (pc + 3) lv (.ref (B + 100) :: st)) : V p l e R s m args below meth c D aC B lo hi nL Q σ pc lv (.ref (B + 0) :: st) :=
  v_get C (ci := 9) inX9 rfl (Nat.le_trans hlo (Nat.zero_le _)) (Nat.lt_of_lt_of_le (by decide) hhi) (rfl) 7 (by decide) hlink (fun _ h => h) rfl hdg kk
theorem gf9_branching (C : Cx p s m args meth c cc nL own ret D aC) (hlo : lo ≤ 0) (hhi : 304 ≤ hi) {idx : Nat} (hlink : Cond.fieldLink own idx "SplitTowers" "branching" "LSplitTowers$Branching;" ∈ WS) (hdg : decode cc pc = .ok (.getfield idx, 3)) (kk : V p l e R s m args below meth c D aC B lo hi nL Q σ (pc + 3) lv (.ref (B + 91) :: st)) : V p l e R s m args below meth c D aC B lo hi nL Q σ pc lv (.ref (B + 0) :: st) :=
  v_get C (ci := 9) inX9 rfl (Nat.le_trans hlo (Nat.zero_le _)) (Nat.lt_of_lt_of_le (by decide) hhi) (rfl) 8 (by decide) hlink (fun _ h => h) rfl hdg kk
theorem gf9_reckoner (C : Cx p s m args meth c cc nL own ret D aC) (hlo : lo ≤ 0) (hhi : 304 ≤ hi) {idx : Nat} (hlink : Cond.fieldLink own idx "SplitTowers" "reckoner" "LSplitTowers$Reckoner;" ∈ WS) (hdg : decode cc pc = .ok (.getfield idx, 3)) (kk : V p l e R s m args below meth c D aC B lo hi nL Q σ (pc + 3) lv (.ref (B + 124) :: st)) : V p l e R s m args below meth c D aC B lo hi nL Q σ pc lv (.ref (B + 0) :: st) :=
  v_get C (ci := 9) inX9 rfl (Nat.le_trans hlo (Nat.zero_le _)) (Nat.lt_of_lt_of_le (by decide) hhi) (rfl) 9 (by decide) hlink (fun _ h => h) rfl hdg kk
theorem gf9_answer (C : Cx p s m args meth c cc nL own ret D aC) (hlo : lo ≤ 0) (hhi : 304 ≤ hi) {idx : Nat} (hlink : Cond.fieldLink own idx "SplitTowers" "answer" "LSplitTowers$Poly;" ∈ WS) (hdg : decode cc pc = .ok (.getfield idx, 3)) (kk : V p l e R s m args below meth c D aC B lo hi nL Q σ (pc + 3) lv (.ref (B + 302) :: st)) : V p l e R s m args below meth c D aC B lo hi nL Q σ pc lv (.ref (B + 0) :: st) :=
  v_get C (ci := 9) inX9 rfl (Nat.le_trans hlo (Nat.zero_le _)) (Nat.lt_of_lt_of_le (by decide) hhi) (rfl) 10 (by decide) hlink (fun _ h => h) rfl hdg kk
theorem gf10_now (C : Cx p s m args meth c cc nL own ret D aC) (hlo : lo ≤ 304) (hhi : 316 ≤ hi) {idx : Nat} (hlink : Cond.fieldLink own idx "SplitTowersModel" "now" "[I" ∈ WS) (hdg : decode cc pc = .ok (.getfield idx, 3)) (kk : V p l e R s m args below meth c D aC B lo hi nL Q σ (pc + 3) lv (.ref (B + 305) :: st)) : V p l e R s m args below meth c D aC B lo hi nL Q σ pc lv (.ref (B + 304) :: st) :=
  v_get C (ci := 10) inX10 rfl hlo (Nat.lt_of_lt_of_le (by decide) hhi) (rfl) 0 (by decide) hlink (fun _ h => h) rfl hdg kk
theorem gf10_history (C : Cx p s m args meth c cc nL own ret D aC) (hlo : lo ≤ 304) (hhi : 316 ≤ hi) {idx : Nat} (hlink : Cond.fieldLink own idx "SplitTowersModel" "history" "[I" ∈ WS) (hdg : decode cc pc = .ok (.getfield idx, 3)) (kk : V p l e R s m args below meth c D aC B lo hi nL Q σ (pc + 3) lv (.ref (B + 306) :: st)) : V p l e R s m args below meth c D aC B lo hi nL Q σ pc lv (.ref (B + 304) :: st) :=
  v_get C (ci := 10) inX10 rfl hlo (Nat.lt_of_lt_of_le (by decide) hhi) (rfl) 1 (by decide) hlink (fun _ h => h) rfl hdg kk
theorem gf10_kept (C : Cx p s m args meth c cc nL own ret D aC) (hlo : lo ≤ 304) (hhi : 316 ≤ hi) {idx : Nat} (hlink : Cond.fieldLink own idx "SplitTowersModel" "kept" "I" ∈ WS) (hdg : decode cc pc = .ok (.getfield idx, 3)) (kk : V p l e R s m args below meth c D aC B lo hi nL Q σ (pc + 3) lv (.int (iI (σ 304 2)) :: st)) : V p l e R s m args below meth c D aC B lo hi nL Q σ pc lv (.ref (B + 304) :: st) :=
  v_get C (ci := 10) inX10 rfl hlo (Nat.lt_of_lt_of_le (by decide) hhi) (rfl) 2 (by decide) hlink (fun _ h => h) rfl hdg kk
theorem pf10_kept (C : Cx p s m args meth c cc nL own ret D aC) (hlo : lo ≤ 304) (hhi : 316 ≤ hi) {x : Int} (hx : inR x) {idx : Nat} (hlink : Cond.fieldLink own idx "SplitTowersModel" "kept" "I" ∈ WS) (hdg : decode cc pc = .ok (.putfield idx, 3)) (kk : V p l e R s m args below meth c D aC B lo hi nL Q (ug σ 304 2 x) (pc + 3) lv st) : V p l e R s m args below meth c D aC B lo hi nL Q σ pc lv (.int (iI x) :: .ref (B + 304) :: st) :=
  v_put C (ci := 10) inX10 tyX10 tyX10_ok nmX10 rfl hlo (Nat.lt_of_lt_of_le (by decide) hhi) (rfl) 2 (by decide) hlink (fun _ h => h) rfl (by decide +kernel) (narrow_i _) (fits_i _) (Nat.le_of_ble_eq_true rfl) hx (rfl) hdg kk
theorem gf10_slot (C : Cx p s m args meth c cc nL own ret D aC) (hlo : lo ≤ 304) (hhi : 316 ≤ hi) {idx : Nat} (hlink : Cond.fieldLink own idx "SplitTowersModel" "slot" "[I" ∈ WS) (hdg : decode cc pc = .ok (.getfield idx, 3)) (kk : V p l e R s m args below meth c D aC B lo hi nL Q σ (pc + 3) lv (.ref (B + 307) :: st)) : V p l e R s m args below meth c D aC B lo hi nL Q σ pc lv (.ref (B + 304) :: st) :=
  v_get C (ci := 10) inX10 rfl hlo (Nat.lt_of_lt_of_le (by decide) hhi) (rfl) 3 (by decide) hlink (fun _ h => h) rfl hdg kk
theorem gf10_isFilled (C : Cx p s m args meth c cc nL own ret D aC) (hlo : lo ≤ 304) (hhi : 316 ≤ hi) {idx : Nat} (hlink : Cond.fieldLink own idx "SplitTowersModel" "isFilled" "Z" ∈ WS) (hdg : decode cc pc = .ok (.getfield idx, 3)) (kk : V p l e R s m args below meth c D aC B lo hi nL Q σ (pc + 3) lv (.int (iI (σ 304 4)) :: st)) : V p l e R s m args below meth c D aC B lo hi nL Q σ pc lv (.ref (B + 304) :: st) :=
  v_get C (ci := 10) inX10 rfl hlo (Nat.lt_of_lt_of_le (by decide) hhi) (rfl) 4 (by decide) hlink (fun _ h => h) rfl hdg kk
theorem pf10_isFilled (C : Cx p s m args meth c cc nL own ret D aC) (hlo : lo ≤ 304) (hhi : 316 ≤ hi) {x : Int} (hx : inR x) (hz : x = 0 ∨ x = 1) {idx : Nat} (hlink : Cond.fieldLink own idx "SplitTowersModel" "isFilled" "Z" ∈ WS) (hdg : decode cc pc = .ok (.putfield idx, 3)) (kk : V p l e R s m args below meth c D aC B lo hi nL Q (ug σ 304 4 x) (pc + 3) lv st) : V p l e R s m args below meth c D aC B lo hi nL Q σ pc lv (.int (iI x) :: .ref (B + 304) :: st) :=
  v_put C (ci := 10) inX10 tyX10 tyX10_ok nmX10 rfl hlo (Nat.lt_of_lt_of_le (by decide) hhi) (rfl) 4 (by decide) hlink (fun _ h => h) rfl (by decide +kernel) (narrow_z hz) (fits_z hz) (Nat.le_of_ble_eq_true rfl) hx (rfl) hdg kk
theorem gf10_table (C : Cx p s m args meth c cc nL own ret D aC) (hlo : lo ≤ 304) (hhi : 316 ≤ hi) {idx : Nat} (hlink : Cond.fieldLink own idx "SplitTowersModel" "table" "[I" ∈ WS) (hdg : decode cc pc = .ok (.getfield idx, 3)) (kk : V p l e R s m args below meth c D aC B lo hi nL Q σ (pc + 3) lv (.ref (B + 308) :: st)) : V p l e R s m args below meth c D aC B lo hi nL Q σ pc lv (.ref (B + 304) :: st) :=
  v_get C (ci := 10) inX10 rfl hlo (Nat.lt_of_lt_of_le (by decide) hhi) (rfl) 5 (by decide) hlink (fun _ h => h) rfl hdg kk
theorem gf10_made (C : Cx p s m args meth c cc nL own ret D aC) (hlo : lo ≤ 304) (hhi : 316 ≤ hi) {idx : Nat} (hlink : Cond.fieldLink own idx "SplitTowersModel" "made" "[I" ∈ WS) (hdg : decode cc pc = .ok (.getfield idx, 3)) (kk : V p l e R s m args below meth c D aC B lo hi nL Q σ (pc + 3) lv (.ref (B + 309) :: st)) : V p l e R s m args below meth c D aC B lo hi nL Q σ pc lv (.ref (B + 304) :: st) :=
  v_get C (ci := 10) inX10 rfl hlo (Nat.lt_of_lt_of_le (by decide) hhi) (rfl) 6 (by decide) hlink (fun _ h => h) rfl hdg kk
theorem gf10_before (C : Cx p s m args meth c cc nL own ret D aC) (hlo : lo ≤ 304) (hhi : 316 ≤ hi) {idx : Nat} (hlink : Cond.fieldLink own idx "SplitTowersModel" "before" "[I" ∈ WS) (hdg : decode cc pc = .ok (.getfield idx, 3)) (kk : V p l e R s m args below meth c D aC B lo hi nL Q σ (pc + 3) lv (.ref (B + 310) :: st)) : V p l e R s m args below meth c D aC B lo hi nL Q σ pc lv (.ref (B + 304) :: st) :=
  v_get C (ci := 10) inX10 rfl hlo (Nat.lt_of_lt_of_le (by decide) hhi) (rfl) 7 (by decide) hlink (fun _ h => h) rfl hdg kk
theorem gf10_typed (C : Cx p s m args meth c cc nL own ret D aC) (hlo : lo ≤ 304) (hhi : 316 ≤ hi) {idx : Nat} (hlink : Cond.fieldLink own idx "SplitTowersModel" "typed" "I" ∈ WS) (hdg : decode cc pc = .ok (.getfield idx, 3)) (kk : V p l e R s m args below meth c D aC B lo hi nL Q σ (pc + 3) lv (.int (iI (σ 304 8)) :: st)) : V p l e R s m args below meth c D aC B lo hi nL Q σ pc lv (.ref (B + 304) :: st) :=
  v_get C (ci := 10) inX10 rfl hlo (Nat.lt_of_lt_of_le (by decide) hhi) (rfl) 8 (by decide) hlink (fun _ h => h) rfl hdg kk
theorem pf10_typed (C : Cx p s m args meth c cc nL own ret D aC) (hlo : lo ≤ 304) (hhi : 316 ≤ hi) {x : Int} (hx : inR x) {idx : Nat} (hlink : Cond.fieldLink own idx "SplitTowersModel" "typed" "I" ∈ WS) (hdg : decode cc pc = .ok (.putfield idx, 3)) (kk : V p l e R s m args below meth c D aC B lo hi nL Q (ug σ 304 8 x) (pc + 3) lv st) : V p l e R s m args below meth c D aC B lo hi nL Q σ pc lv (.int (iI x) :: .ref (B + 304) :: st) :=
  v_put C (ci := 10) inX10 tyX10 tyX10_ok nmX10 rfl hlo (Nat.lt_of_lt_of_le (by decide) hhi) (rfl) 8 (by decide) hlink (fun _ h => h) rfl (by decide +kernel) (narrow_i _) (fits_i _) (Nat.le_of_ble_eq_true rfl) hx (rfl) hdg kk
theorem gf10_text (C : Cx p s m args meth c cc nL own ret D aC) (hlo : lo ≤ 304) (hhi : 316 ≤ hi) {idx : Nat} (hlink : Cond.fieldLink own idx "SplitTowersModel" "text" "[C" ∈ WS) (hdg : decode cc pc = .ok (.getfield idx, 3)) (kk : V p l e R s m args below meth c D aC B lo hi nL Q σ (pc + 3) lv (.ref (B + 311) :: st)) : V p l e R s m args below meth c D aC B lo hi nL Q σ pc lv (.ref (B + 304) :: st) :=
  v_get C (ci := 10) inX10 rfl hlo (Nat.lt_of_lt_of_le (by decide) hhi) (rfl) 9 (by decide) hlink (fun _ h => h) rfl hdg kk
theorem gf10_at (C : Cx p s m args meth c cc nL own ret D aC) (hlo : lo ≤ 304) (hhi : 316 ≤ hi) {idx : Nat} (hlink : Cond.fieldLink own idx "SplitTowersModel" "at" "I" ∈ WS) (hdg : decode cc pc = .ok (.getfield idx, 3)) (kk : V p l e R s m args below meth c D aC B lo hi nL Q σ (pc + 3) lv (.int (iI (σ 304 10)) :: st)) : V p l e R s m args below meth c D aC B lo hi nL Q σ pc lv (.ref (B + 304) :: st) :=
  v_get C (ci := 10) inX10 rfl hlo (Nat.lt_of_lt_of_le (by decide) hhi) (rfl) 10 (by decide) hlink (fun _ h => h) rfl hdg kk
theorem pf10_at (C : Cx p s m args meth c cc nL own ret D aC) (hlo : lo ≤ 304) (hhi : 316 ≤ hi) {x : Int} (hx : inR x) {idx : Nat} (hlink : Cond.fieldLink own idx "SplitTowersModel" "at" "I" ∈ WS) (hdg : decode cc pc = .ok (.putfield idx, 3)) (kk : V p l e R s m args below meth c D aC B lo hi nL Q (ug σ 304 10 x) (pc + 3) lv st) : V p l e R s m args below meth c D aC B lo hi nL Q σ pc lv (.int (iI x) :: .ref (B + 304) :: st) :=
  v_put C (ci := 10) inX10 tyX10 tyX10_ok nmX10 rfl hlo (Nat.lt_of_lt_of_le (by decide) hhi) (rfl) 10 (by decide) hlink (fun _ h => h) rfl (by decide +kernel) (narrow_i _) (fits_i _) (Nat.le_of_ble_eq_true rfl) hx (rfl) hdg kk
theorem gf10_read (C : Cx p s m args meth c cc nL own ret D aC) (hlo : lo ≤ 304) (hhi : 316 ≤ hi) {idx : Nat} (hlink : Cond.fieldLink own idx "SplitTowersModel" "read" "[I" ∈ WS) (hdg : decode cc pc = .ok (.getfield idx, 3)) (kk : V p l e R s m args below meth c D aC B lo hi nL Q σ (pc + 3) lv (.ref (B + 312) :: st)) : V p l e R s m args below meth c D aC B lo hi nL Q σ pc lv (.ref (B + 304) :: st) :=
  v_get C (ci := 10) inX10 rfl hlo (Nat.lt_of_lt_of_le (by decide) hhi) (rfl) 11 (by decide) hlink (fun _ h => h) rfl hdg kk
theorem gf10_toSum (C : Cx p s m args meth c cc nL own ret D aC) (hlo : lo ≤ 304) (hhi : 316 ≤ hi) {idx : Nat} (hlink : Cond.fieldLink own idx "SplitTowersModel" "toSum" "[I" ∈ WS) (hdg : decode cc pc = .ok (.getfield idx, 3)) (kk : V p l e R s m args below meth c D aC B lo hi nL Q σ (pc + 3) lv (.ref (B + 313) :: st)) : V p l e R s m args below meth c D aC B lo hi nL Q σ pc lv (.ref (B + 304) :: st) :=
  v_get C (ci := 10) inX10 rfl hlo (Nat.lt_of_lt_of_le (by decide) hhi) (rfl) 12 (by decide) hlink (fun _ h => h) rfl hdg kk
theorem gf10_toProduct (C : Cx p s m args meth c cc nL own ret D aC) (hlo : lo ≤ 304) (hhi : 316 ≤ hi) {idx : Nat} (hlink : Cond.fieldLink own idx "SplitTowersModel" "toProduct" "[I" ∈ WS) (hdg : decode cc pc = .ok (.getfield idx, 3)) (kk : V p l e R s m args below meth c D aC B lo hi nL Q σ (pc + 3) lv (.ref (B + 314) :: st)) : V p l e R s m args below meth c D aC B lo hi nL Q σ pc lv (.ref (B + 304) :: st) :=
  v_get C (ci := 10) inX10 rfl hlo (Nat.lt_of_lt_of_le (by decide) hhi) (rfl) 13 (by decide) hlink (fun _ h => h) rfl hdg kk
theorem gf10_factors (C : Cx p s m args meth c cc nL own ret D aC) (hlo : lo ≤ 304) (hhi : 316 ≤ hi) {idx : Nat} (hlink : Cond.fieldLink own idx "SplitTowersModel" "factors" "[I" ∈ WS) (hdg : decode cc pc = .ok (.getfield idx, 3)) (kk : V p l e R s m args below meth c D aC B lo hi nL Q σ (pc + 3) lv (.ref (B + 315) :: st)) : V p l e R s m args below meth c D aC B lo hi nL Q σ pc lv (.ref (B + 304) :: st) :=
  v_get C (ci := 10) inX10 rfl hlo (Nat.lt_of_lt_of_le (by decide) hhi) (rfl) 14 (by decide) hlink (fun _ h => h) rfl hdg kk

end VROWS
end

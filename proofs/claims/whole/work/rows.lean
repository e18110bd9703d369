section
-- ===== PART A: goes FIRST, ahead of the names: the tables' words, and 'selects' of the private methods out of them =====
/-- a private method of a class that the tables say can be made, by its rows of tables_1 -/
def lw_okq (q : MethodName × Nat) : Prop := (q.1.cls ≠ "java/lang/invoke/MethodHandle" ∧ q.1.cls ≠ "java/lang/invoke/VarHandle") ∧ Cond.instantiable q.1.cls q.2 ∈ tables_1 ∧ Cond.privateMethod q.1 ∈ tables_1 ∧ Cond.instanceMethod q.1 ∈ tables_1
theorem lw_p0 : lw_okq (⟨"FilledForOne", "refuse", "(I)I"⟩, 9) := ⟨⟨by decide +kernel, by decide +kernel⟩, List.mem_of_getElem? (i := 12) (by decide +kernel), List.mem_of_getElem? (i := 229) (by decide +kernel), List.mem_of_getElem? (i := 230) (by decide +kernel)⟩
theorem lw_p1 : lw_okq (⟨"FilledForOneModel", "no", "(I)I"⟩, 33) := ⟨⟨by decide +kernel, by decide +kernel⟩, List.mem_of_getElem? (i := 687) (by decide +kernel), List.mem_of_getElem? (i := 800) (by decide +kernel), List.mem_of_getElem? (i := 801) (by decide +kernel)⟩
theorem lw_p2 : lw_okq (⟨"FilledForOneModel", "statement", "()Z"⟩, 33) := ⟨⟨by decide +kernel, by decide +kernel⟩, List.mem_of_getElem? (i := 687) (by decide +kernel), List.mem_of_getElem? (i := 808) (by decide +kernel), List.mem_of_getElem? (i := 809) (by decide +kernel)⟩
theorem lw_p3 : lw_okq (⟨"FilledForOneModel", "next", "()I"⟩, 33) := ⟨⟨by decide +kernel, by decide +kernel⟩, List.mem_of_getElem? (i := 687) (by decide +kernel), List.mem_of_getElem? (i := 812) (by decide +kernel), List.mem_of_getElem? (i := 813) (by decide +kernel)⟩
theorem lw_p4 : lw_okq (⟨"FilledForOneModel", "readsSetting", "(I)Z"⟩, 33) := ⟨⟨by decide +kernel, by decide +kernel⟩, List.mem_of_getElem? (i := 687) (by decide +kernel), List.mem_of_getElem? (i := 816) (by decide +kernel), List.mem_of_getElem? (i := 817) (by decide +kernel)⟩
theorem lw_p5 : lw_okq (⟨"FilledForOneModel", "readsNumber", "(III)Z"⟩, 33) := ⟨⟨by decide +kernel, by decide +kernel⟩, List.mem_of_getElem? (i := 687) (by decide +kernel), List.mem_of_getElem? (i := 820) (by decide +kernel), List.mem_of_getElem? (i := 821) (by decide +kernel)⟩
theorem lw_p6 : lw_okq (⟨"FilledForOneModel", "readsComer", "(I)Z"⟩, 33) := ⟨⟨by decide +kernel, by decide +kernel⟩, List.mem_of_getElem? (i := 687) (by decide +kernel), List.mem_of_getElem? (i := 827) (by decide +kernel), List.mem_of_getElem? (i := 828) (by decide +kernel)⟩
theorem lw_p7 : lw_okq (⟨"FilledForOneModel", "passesAll", "(IZ)V"⟩, 33) := ⟨⟨by decide +kernel, by decide +kernel⟩, List.mem_of_getElem? (i := 687) (by decide +kernel), List.mem_of_getElem? (i := 831) (by decide +kernel), List.mem_of_getElem? (i := 832) (by decide +kernel)⟩
theorem lw_p8 : lw_okq (⟨"FilledForOneModel", "passes", "([I)V"⟩, 33) := ⟨⟨by decide +kernel, by decide +kernel⟩, List.mem_of_getElem? (i := 687) (by decide +kernel), List.mem_of_getElem? (i := 835) (by decide +kernel), List.mem_of_getElem? (i := 836) (by decide +kernel)⟩
theorem lw_p9 : lw_okq (⟨"FilledForOneModel", "passOne", "(I)I"⟩, 33) := ⟨⟨by decide +kernel, by decide +kernel⟩, List.mem_of_getElem? (i := 687) (by decide +kernel), List.mem_of_getElem? (i := 839) (by decide +kernel), List.mem_of_getElem? (i := 840) (by decide +kernel)⟩
theorem lw_p10 : lw_okq (⟨"FilledForOneModel", "comesAs", "(I)Z"⟩, 33) := ⟨⟨by decide +kernel, by decide +kernel⟩, List.mem_of_getElem? (i := 687) (by decide +kernel), List.mem_of_getElem? (i := 843) (by decide +kernel), List.mem_of_getElem? (i := 844) (by decide +kernel)⟩
theorem lw_p11 : lw_okq (⟨"FilledForOneModel", "notSet", "(II)I"⟩, 33) := ⟨⟨by decide +kernel, by decide +kernel⟩, List.mem_of_getElem? (i := 687) (by decide +kernel), List.mem_of_getElem? (i := 847) (by decide +kernel), List.mem_of_getElem? (i := 848) (by decide +kernel)⟩
theorem lw_p12 : lw_okq (⟨"FilledForOneModel", "comesOne", "(I)Z"⟩, 33) := ⟨⟨by decide +kernel, by decide +kernel⟩, List.mem_of_getElem? (i := 687) (by decide +kernel), List.mem_of_getElem? (i := 857) (by decide +kernel), List.mem_of_getElem? (i := 858) (by decide +kernel)⟩
theorem lw_p13 : lw_okq (⟨"FilledForOneModel", "isComer", "(I)Z"⟩, 33) := ⟨⟨by decide +kernel, by decide +kernel⟩, List.mem_of_getElem? (i := 687) (by decide +kernel), List.mem_of_getElem? (i := 861) (by decide +kernel), List.mem_of_getElem? (i := 862) (by decide +kernel)⟩
theorem lw_p14 : lw_okq (⟨"FilledForOneModel", "upTo", "(II)I"⟩, 33) := ⟨⟨by decide +kernel, by decide +kernel⟩, List.mem_of_getElem? (i := 687) (by decide +kernel), List.mem_of_getElem? (i := 877) (by decide +kernel), List.mem_of_getElem? (i := 878) (by decide +kernel)⟩
theorem lw_p15 : lw_okq (⟨"FilledForOneModel", "cupsBy", "(II)I"⟩, 33) := ⟨⟨by decide +kernel, by decide +kernel⟩, List.mem_of_getElem? (i := 687) (by decide +kernel), List.mem_of_getElem? (i := 881) (by decide +kernel), List.mem_of_getElem? (i := 882) (by decide +kernel)⟩
def lw_privs_1 : List (MethodName × Nat) := [(⟨"FilledForOne", "refuse", "(I)I"⟩, 9), (⟨"FilledForOneModel", "no", "(I)I"⟩, 33), (⟨"FilledForOneModel", "statement", "()Z"⟩, 33), (⟨"FilledForOneModel", "next", "()I"⟩, 33), (⟨"FilledForOneModel", "readsSetting", "(I)Z"⟩, 33), (⟨"FilledForOneModel", "readsNumber", "(III)Z"⟩, 33), (⟨"FilledForOneModel", "readsComer", "(I)Z"⟩, 33), (⟨"FilledForOneModel", "passesAll", "(IZ)V"⟩, 33), (⟨"FilledForOneModel", "passes", "([I)V"⟩, 33), (⟨"FilledForOneModel", "passOne", "(I)I"⟩, 33), (⟨"FilledForOneModel", "comesAs", "(I)Z"⟩, 33), (⟨"FilledForOneModel", "notSet", "(II)I"⟩, 33), (⟨"FilledForOneModel", "comesOne", "(I)Z"⟩, 33), (⟨"FilledForOneModel", "isComer", "(I)Z"⟩, 33), (⟨"FilledForOneModel", "upTo", "(II)I"⟩, 33), (⟨"FilledForOneModel", "cupsBy", "(II)I"⟩, 33)]
theorem lw_r1 : ∀ q ∈ lw_privs_1, lw_okq q := List.forall_mem_cons.mpr ⟨lw_p0, List.forall_mem_cons.mpr ⟨lw_p1, List.forall_mem_cons.mpr ⟨lw_p2, List.forall_mem_cons.mpr ⟨lw_p3, List.forall_mem_cons.mpr ⟨lw_p4, List.forall_mem_cons.mpr ⟨lw_p5, List.forall_mem_cons.mpr ⟨lw_p6, List.forall_mem_cons.mpr ⟨lw_p7, List.forall_mem_cons.mpr ⟨lw_p8, List.forall_mem_cons.mpr ⟨lw_p9, List.forall_mem_cons.mpr ⟨lw_p10, List.forall_mem_cons.mpr ⟨lw_p11, List.forall_mem_cons.mpr ⟨lw_p12, List.forall_mem_cons.mpr ⟨lw_p13, List.forall_mem_cons.mpr ⟨lw_p14, List.forall_mem_cons.mpr ⟨lw_p15, fun _ h => absurd h List.not_mem_nil⟩⟩⟩⟩⟩⟩⟩⟩⟩⟩⟩⟩⟩⟩⟩⟩
theorem lw_p16 : lw_okq (⟨"FilledForOneModel", "wantsInLine", "()I"⟩, 33) := ⟨⟨by decide +kernel, by decide +kernel⟩, List.mem_of_getElem? (i := 687) (by decide +kernel), List.mem_of_getElem? (i := 885) (by decide +kernel), List.mem_of_getElem? (i := 886) (by decide +kernel)⟩
theorem lw_p17 : lw_okq (⟨"FilledForOneModel", "wantsSoon", "(I)I"⟩, 33) := ⟨⟨by decide +kernel, by decide +kernel⟩, List.mem_of_getElem? (i := 687) (by decide +kernel), List.mem_of_getElem? (i := 889) (by decide +kernel), List.mem_of_getElem? (i := 890) (by decide +kernel)⟩
theorem lw_p18 : lw_okq (⟨"FilledForOneModel", "isFree", "(I)Z"⟩, 33) := ⟨⟨by decide +kernel, by decide +kernel⟩, List.mem_of_getElem? (i := 687) (by decide +kernel), List.mem_of_getElem? (i := 901) (by decide +kernel), List.mem_of_getElem? (i := 902) (by decide +kernel)⟩
theorem lw_p19 : lw_okq (⟨"FilledForOneModel", "isOver", "()Z"⟩, 33) := ⟨⟨by decide +kernel, by decide +kernel⟩, List.mem_of_getElem? (i := 687) (by decide +kernel), List.mem_of_getElem? (i := 913) (by decide +kernel), List.mem_of_getElem? (i := 914) (by decide +kernel)⟩
theorem lw_p20 : lw_okq (⟨"FilledForOneModel", "goesMinute", "()V"⟩, 33) := ⟨⟨by decide +kernel, by decide +kernel⟩, List.mem_of_getElem? (i := 687) (by decide +kernel), List.mem_of_getElem? (i := 917) (by decide +kernel), List.mem_of_getElem? (i := 918) (by decide +kernel)⟩
theorem lw_p21 : lw_okq (⟨"FilledForOneModel", "leaves", "(I)V"⟩, 33) := ⟨⟨by decide +kernel, by decide +kernel⟩, List.mem_of_getElem? (i := 687) (by decide +kernel), List.mem_of_getElem? (i := 921) (by decide +kernel), List.mem_of_getElem? (i := 922) (by decide +kernel)⟩
theorem lw_p22 : lw_okq (⟨"FilledForOneModel", "isServed", "(I)Z"⟩, 33) := ⟨⟨by decide +kernel, by decide +kernel⟩, List.mem_of_getElem? (i := 687) (by decide +kernel), List.mem_of_getElem? (i := 925) (by decide +kernel), List.mem_of_getElem? (i := 926) (by decide +kernel)⟩
theorem lw_p23 : lw_okq (⟨"FilledForOneModel", "hotFor", "(I)I"⟩, 33) := ⟨⟨by decide +kernel, by decide +kernel⟩, List.mem_of_getElem? (i := 687) (by decide +kernel), List.mem_of_getElem? (i := 929) (by decide +kernel), List.mem_of_getElem? (i := 930) (by decide +kernel)⟩
theorem lw_p24 : lw_okq (⟨"FilledForOneModel", "freeFor", "(I)I"⟩, 33) := ⟨⟨by decide +kernel, by decide +kernel⟩, List.mem_of_getElem? (i := 687) (by decide +kernel), List.mem_of_getElem? (i := 933) (by decide +kernel), List.mem_of_getElem? (i := 934) (by decide +kernel)⟩
theorem lw_p25 : lw_okq (⟨"FilledForOneModel", "putsOn", "(II)V"⟩, 33) := ⟨⟨by decide +kernel, by decide +kernel⟩, List.mem_of_getElem? (i := 687) (by decide +kernel), List.mem_of_getElem? (i := 937) (by decide +kernel), List.mem_of_getElem? (i := 938) (by decide +kernel)⟩
theorem lw_p26 : lw_okq (⟨"FilledForOneModel", "boilTime", "(II)I"⟩, 33) := ⟨⟨by decide +kernel, by decide +kernel⟩, List.mem_of_getElem? (i := 687) (by decide +kernel), List.mem_of_getElem? (i := 941) (by decide +kernel), List.mem_of_getElem? (i := 942) (by decide +kernel)⟩
theorem lw_p27 : lw_okq (⟨"FilledForOneModel", "cools", "()V"⟩, 33) := ⟨⟨by decide +kernel, by decide +kernel⟩, List.mem_of_getElem? (i := 687) (by decide +kernel), List.mem_of_getElem? (i := 945) (by decide +kernel), List.mem_of_getElem? (i := 946) (by decide +kernel)⟩
theorem lw_p28 : lw_okq (⟨"FilledForOneModel", "begins", "()V"⟩, 33) := ⟨⟨by decide +kernel, by decide +kernel⟩, List.mem_of_getElem? (i := 687) (by decide +kernel), List.mem_of_getElem? (i := 953) (by decide +kernel), List.mem_of_getElem? (i := 954) (by decide +kernel)⟩
theorem lw_p29 : lw_okq (⟨"FilledForOneModel", "goesToEnd", "()V"⟩, 33) := ⟨⟨by decide +kernel, by decide +kernel⟩, List.mem_of_getElem? (i := 687) (by decide +kernel), List.mem_of_getElem? (i := 965) (by decide +kernel), List.mem_of_getElem? (i := 966) (by decide +kernel)⟩
theorem lw_p30 : lw_okq (⟨"FilledForOneModel", "waitedAll", "()I"⟩, 33) := ⟨⟨by decide +kernel, by decide +kernel⟩, List.mem_of_getElem? (i := 687) (by decide +kernel), List.mem_of_getElem? (i := 969) (by decide +kernel), List.mem_of_getElem? (i := 970) (by decide +kernel)⟩
theorem lw_p31 : lw_okq (⟨"FilledForOneModel", "stateMany", "(I)I"⟩, 33) := ⟨⟨by decide +kernel, by decide +kernel⟩, List.mem_of_getElem? (i := 687) (by decide +kernel), List.mem_of_getElem? (i := 973) (by decide +kernel), List.mem_of_getElem? (i := 974) (by decide +kernel)⟩
def lw_privs_2 : List (MethodName × Nat) := [(⟨"FilledForOneModel", "wantsInLine", "()I"⟩, 33), (⟨"FilledForOneModel", "wantsSoon", "(I)I"⟩, 33), (⟨"FilledForOneModel", "isFree", "(I)Z"⟩, 33), (⟨"FilledForOneModel", "isOver", "()Z"⟩, 33), (⟨"FilledForOneModel", "goesMinute", "()V"⟩, 33), (⟨"FilledForOneModel", "leaves", "(I)V"⟩, 33), (⟨"FilledForOneModel", "isServed", "(I)Z"⟩, 33), (⟨"FilledForOneModel", "hotFor", "(I)I"⟩, 33), (⟨"FilledForOneModel", "freeFor", "(I)I"⟩, 33), (⟨"FilledForOneModel", "putsOn", "(II)V"⟩, 33), (⟨"FilledForOneModel", "boilTime", "(II)I"⟩, 33), (⟨"FilledForOneModel", "cools", "()V"⟩, 33), (⟨"FilledForOneModel", "begins", "()V"⟩, 33), (⟨"FilledForOneModel", "goesToEnd", "()V"⟩, 33), (⟨"FilledForOneModel", "waitedAll", "()I"⟩, 33), (⟨"FilledForOneModel", "stateMany", "(I)I"⟩, 33)]
theorem lw_r2 : ∀ q ∈ lw_privs_2, lw_okq q := List.forall_mem_cons.mpr ⟨lw_p16, List.forall_mem_cons.mpr ⟨lw_p17, List.forall_mem_cons.mpr ⟨lw_p18, List.forall_mem_cons.mpr ⟨lw_p19, List.forall_mem_cons.mpr ⟨lw_p20, List.forall_mem_cons.mpr ⟨lw_p21, List.forall_mem_cons.mpr ⟨lw_p22, List.forall_mem_cons.mpr ⟨lw_p23, List.forall_mem_cons.mpr ⟨lw_p24, List.forall_mem_cons.mpr ⟨lw_p25, List.forall_mem_cons.mpr ⟨lw_p26, List.forall_mem_cons.mpr ⟨lw_p27, List.forall_mem_cons.mpr ⟨lw_p28, List.forall_mem_cons.mpr ⟨lw_p29, List.forall_mem_cons.mpr ⟨lw_p30, List.forall_mem_cons.mpr ⟨lw_p31, fun _ h => absurd h List.not_mem_nil⟩⟩⟩⟩⟩⟩⟩⟩⟩⟩⟩⟩⟩⟩⟩⟩
theorem lw_p32 : lw_okq (⟨"FilledForOneModel", "costNow", "()I"⟩, 33) := ⟨⟨by decide +kernel, by decide +kernel⟩, List.mem_of_getElem? (i := 687) (by decide +kernel), List.mem_of_getElem? (i := 977) (by decide +kernel), List.mem_of_getElem? (i := 978) (by decide +kernel)⟩
theorem lw_p33 : lw_okq (⟨"FilledForOneModel", "bestKind", "(II)I"⟩, 33) := ⟨⟨by decide +kernel, by decide +kernel⟩, List.mem_of_getElem? (i := 687) (by decide +kernel), List.mem_of_getElem? (i := 989) (by decide +kernel), List.mem_of_getElem? (i := 990) (by decide +kernel)⟩
theorem lw_p34 : lw_okq (⟨"FilledForOneModel", "costAnew", "()I"⟩, 33) := ⟨⟨by decide +kernel, by decide +kernel⟩, List.mem_of_getElem? (i := 687) (by decide +kernel), List.mem_of_getElem? (i := 994) (by decide +kernel), List.mem_of_getElem? (i := 995) (by decide +kernel)⟩
theorem lw_p35 : lw_okq (⟨"FilledForOneModel", "lower", "(I)I"⟩, 33) := ⟨⟨by decide +kernel, by decide +kernel⟩, List.mem_of_getElem? (i := 687) (by decide +kernel), List.mem_of_getElem? (i := 1002) (by decide +kernel), List.mem_of_getElem? (i := 1003) (by decide +kernel)⟩
theorem lw_p36 : lw_okq (⟨"FilledForOneModel", "goesRounds", "()I"⟩, 33) := ⟨⟨by decide +kernel, by decide +kernel⟩, List.mem_of_getElem? (i := 687) (by decide +kernel), List.mem_of_getElem? (i := 1006) (by decide +kernel), List.mem_of_getElem? (i := 1007) (by decide +kernel)⟩
theorem lw_p37 : lw_okq (⟨"FilledForOneModel", "kindsDigits", "()I"⟩, 33) := ⟨⟨by decide +kernel, by decide +kernel⟩, List.mem_of_getElem? (i := 687) (by decide +kernel), List.mem_of_getElem? (i := 1010) (by decide +kernel), List.mem_of_getElem? (i := 1011) (by decide +kernel)⟩
theorem lw_p38 : lw_okq (⟨"FilledForOneModel", "leastOfOneKind", "()I"⟩, 33) := ⟨⟨by decide +kernel, by decide +kernel⟩, List.mem_of_getElem? (i := 687) (by decide +kernel), List.mem_of_getElem? (i := 1014) (by decide +kernel), List.mem_of_getElem? (i := 1015) (by decide +kernel)⟩
theorem lw_p39 : lw_okq (⟨"FilledForOneModel", "hours", "()I"⟩, 33) := ⟨⟨by decide +kernel, by decide +kernel⟩, List.mem_of_getElem? (i := 687) (by decide +kernel), List.mem_of_getElem? (i := 1030) (by decide +kernel), List.mem_of_getElem? (i := 1031) (by decide +kernel)⟩
theorem lw_p40 : lw_okq (⟨"FilledForOneModel", "sorts", "()V"⟩, 33) := ⟨⟨by decide +kernel, by decide +kernel⟩, List.mem_of_getElem? (i := 687) (by decide +kernel), List.mem_of_getElem? (i := 1038) (by decide +kernel), List.mem_of_getElem? (i := 1039) (by decide +kernel)⟩
theorem lw_p41 : lw_okq (⟨"FilledForOneModel", "costOfRows", "(I)I"⟩, 33) := ⟨⟨by decide +kernel, by decide +kernel⟩, List.mem_of_getElem? (i := 687) (by decide +kernel), List.mem_of_getElem? (i := 1042) (by decide +kernel), List.mem_of_getElem? (i := 1043) (by decide +kernel)⟩
theorem lw_p42 : lw_okq (⟨"FilledForOneModel", "ferryBy", "(II)I"⟩, 33) := ⟨⟨by decide +kernel, by decide +kernel⟩, List.mem_of_getElem? (i := 687) (by decide +kernel), List.mem_of_getElem? (i := 1050) (by decide +kernel), List.mem_of_getElem? (i := 1051) (by decide +kernel)⟩
theorem lw_p43 : lw_okq (⟨"FilledForOneModel", "timesBy", "(I)I"⟩, 33) := ⟨⟨by decide +kernel, by decide +kernel⟩, List.mem_of_getElem? (i := 687) (by decide +kernel), List.mem_of_getElem? (i := 1058) (by decide +kernel), List.mem_of_getElem? (i := 1059) (by decide +kernel)⟩
def lw_privs_3 : List (MethodName × Nat) := [(⟨"FilledForOneModel", "costNow", "()I"⟩, 33), (⟨"FilledForOneModel", "bestKind", "(II)I"⟩, 33), (⟨"FilledForOneModel", "costAnew", "()I"⟩, 33), (⟨"FilledForOneModel", "lower", "(I)I"⟩, 33), (⟨"FilledForOneModel", "goesRounds", "()I"⟩, 33), (⟨"FilledForOneModel", "kindsDigits", "()I"⟩, 33), (⟨"FilledForOneModel", "leastOfOneKind", "()I"⟩, 33), (⟨"FilledForOneModel", "hours", "()I"⟩, 33), (⟨"FilledForOneModel", "sorts", "()V"⟩, 33), (⟨"FilledForOneModel", "costOfRows", "(I)I"⟩, 33), (⟨"FilledForOneModel", "ferryBy", "(II)I"⟩, 33), (⟨"FilledForOneModel", "timesBy", "(I)I"⟩, 33)]
theorem lw_r3 : ∀ q ∈ lw_privs_3, lw_okq q := List.forall_mem_cons.mpr ⟨lw_p32, List.forall_mem_cons.mpr ⟨lw_p33, List.forall_mem_cons.mpr ⟨lw_p34, List.forall_mem_cons.mpr ⟨lw_p35, List.forall_mem_cons.mpr ⟨lw_p36, List.forall_mem_cons.mpr ⟨lw_p37, List.forall_mem_cons.mpr ⟨lw_p38, List.forall_mem_cons.mpr ⟨lw_p39, List.forall_mem_cons.mpr ⟨lw_p40, List.forall_mem_cons.mpr ⟨lw_p41, List.forall_mem_cons.mpr ⟨lw_p42, List.forall_mem_cons.mpr ⟨lw_p43, fun _ h => absurd h List.not_mem_nil⟩⟩⟩⟩⟩⟩⟩⟩⟩⟩⟩⟩
def lw_privs : List (MethodName × Nat) := lw_privs_1 ++ (lw_privs_2 ++ (lw_privs_3))
def lw_tbl : List Cond := k2_sels lw_privs ++ tables_1
theorem lw_privs_ok : ∀ q ∈ lw_privs, lw_okq q := by
  show ∀ q ∈ lw_privs_1 ++ (lw_privs_2 ++ (lw_privs_3)), lw_okq q
  exact List.forall_mem_append.mpr ⟨lw_r1, List.forall_mem_append.mpr ⟨lw_r2, lw_r3⟩⟩
-- ===== end of PART A; then your names; then what follows =====
end
section
/-! ===== BEGIN words of one list among another's, by their places ===== -/
theorem goodIn_r {big : List Cond} (ws : List Cond) (ps : List Nat) (hp : ws = ps.filterMap (fun i => big[i]?)) (h : ws.all goodWord = true) : GoodIn big ws := by
  intro w hw
  have h1 := List.all_eq_true.mp h w hw
  rw [hp] at hw
  obtain ⟨i, -, hi⟩ := List.mem_filterMap.mp hw
  have hm : w ∈ big := by first | exact List.mem_of_getElem? hi | exact List.getElem?_mem hi
  exact ⟨hm, good_of_word h1⟩
theorem goodIn_app {big a b : List Cond} (ha : GoodIn big a) (hb : GoodIn big b) : GoodIn big (a ++ b) := fun w h => (List.mem_append.mp h).elim (ha w) (hb w)
theorem goodIn_ca {big a b : List Cond} {c : Cond} (ha : GoodIn big (c :: a)) (hb : GoodIn big b) : GoodIn big (c :: (a ++ b)) := fun w h => (List.mem_cons.mp h).elim (fun e => ha w (List.mem_cons.mpr (Or.inl e))) (fun h => (List.mem_append.mp h).elim (fun h => ha w (List.mem_cons.mpr (Or.inr h))) (hb w))
theorem goodIn_sub {big ws : List Cond} (hm : ∀ w ∈ ws, w ∈ big) (h : ws.all goodWord = true) : GoodIn big ws := fun w hw => ⟨hm w hw, good_of_word (List.all_eq_true.mp h w hw)⟩
/-! ===== END ===== -/

/-! ===== BEGIN printed: names, fields, word lists, decode rows ===== -/
def RX0 : String := "FilledForOne$Arrivals"
def TX0 : u_T := fun k => match k with
  | 0 => ("FilledForOne$Arrivals", "minutes", "[I", true)
  | 1 => ("FilledForOne$Arrivals", "wants", "[I", true)
  | _ => ("FilledForOne$Arrivals", "count", "I", false)
def tyX0 : Nat → FieldType := fun k => match k with
  | 0 => .array .int
  | 1 => .array .int
  | _ => .int
abbrev wsX00 : List Cond := u_ws RX0 TX0 3
theorem nmX0 : ∀ a, a < 3 → ∀ b, b < 3 → a ≠ b → (TX0 a).2.1 ≠ (TX0 b).2.1 := by decide +kernel
theorem tyX0_ok : ∀ k, k < 3 → parseFieldDescriptor (TX0 k).2.2.1 = some (tyX0 k) := by decide +kernel
abbrev cX0_init : ByteArray := prog_2_method_1_code
def yX0_init : MethodName := ⟨RX0, "<init>", "()V"⟩
abbrev cX0_take : ByteArray := prog_2_method_2_code
def yX0_take : MethodName := ⟨RX0, "take", "(LFilledForOne$Day;)V"⟩
abbrev cX0_insert : ByteArray := prog_2_method_3_code
def yX0_insert : MethodName := ⟨RX0, "insert", "(II)V"⟩
abbrev cX0_hours : ByteArray := prog_2_method_4_code
def yX0_hours : MethodName := ⟨RX0, "hours", "()I"⟩
abbrev cX0_leastBoils : ByteArray := prog_2_method_5_code
def yX0_leastBoils : MethodName := ⟨RX0, "leastBoils", "(LFilledForOne$Day;Z)I"⟩
abbrev cX0_boilsCost : ByteArray := prog_2_method_6_code
def yX0_boilsCost : MethodName := ⟨RX0, "boilsCost", "(I[I)I"⟩
abbrev cX0_waitedTill : ByteArray := prog_2_method_7_code
def yX0_waitedTill : MethodName := ⟨RX0, "waitedTill", "(III)I"⟩
abbrev cX0_waitedForSeats : ByteArray := prog_2_method_8_code
def yX0_waitedForSeats : MethodName := ⟨RX0, "waitedForSeats", "(II)I"⟩
abbrev cX0_waitedForTimes : ByteArray := prog_2_method_9_code
def yX0_waitedForTimes : MethodName := ⟨RX0, "waitedForTimes", "(I)I"⟩
abbrev cX0_bestSeats : ByteArray := prog_2_method_10_code
def yX0_bestSeats : MethodName := ⟨RX0, "bestSeats", "(I)I"⟩
def RX1 : String := "FilledForOne$Comer"
def TX1 : u_T := fun k => match k with
  | 0 => ("FilledForOne$Comer", "kind", "I", false)
  | 1 => ("FilledForOne$Comer", "figure", "I", false)
  | 2 => ("FilledForOne$Comer", "minute", "I", false)
  | 3 => ("FilledForOne$Comer", "wants", "I", false)
  | 4 => ("FilledForOne$Comer", "patience", "I", false)
  | 5 => ("FilledForOne$Comer", "state", "I", false)
  | _ => ("FilledForOne$Comer", "servedAt", "I", false)
def tyX1 : Nat → FieldType := fun k => match k with
  | 0 => .int
  | 1 => .int
  | 2 => .int
  | 3 => .int
  | 4 => .int
  | 5 => .int
  | _ => .int
abbrev wsX10 : List Cond := u_ws RX1 TX1 7
theorem nmX1 : ∀ a, a < 7 → ∀ b, b < 7 → a ≠ b → (TX1 a).2.1 ≠ (TX1 b).2.1 := by decide +kernel
theorem tyX1_ok : ∀ k, k < 7 → parseFieldDescriptor (TX1 k).2.2.1 = some (tyX1 k) := by decide +kernel
abbrev cX1_init : ByteArray := prog_3_method_1_code
def yX1_init : MethodName := ⟨RX1, "<init>", "()V"⟩
abbrev cX1_copy : ByteArray := prog_3_method_2_code
def yX1_copy : MethodName := ⟨RX1, "copy", "(LFilledForOne$Comer;)V"⟩
abbrev cX1_become : ByteArray := prog_3_method_3_code
def yX1_become : MethodName := ⟨RX1, "become", "(II)V"⟩
abbrev cX1_waited : ByteArray := prog_3_method_4_code
def yX1_waited : MethodName := ⟨RX1, "waited", "()I"⟩
abbrev cX1_tell : ByteArray := prog_3_method_5_code
def yX1_tell : MethodName := ⟨RX1, "tell", "(I)I"⟩
def RX2 : String := "FilledForOne$Day"
def TX2 : u_T := fun k => match k with
  | 0 => ("FilledForOne$Day", "settings", "[I", true)
  | 1 => ("FilledForOne$Day", "comers", "[LFilledForOne$Comer;", true)
  | 2 => ("FilledForOne$Day", "kettles", "[LFilledForOne$Kettle;", true)
  | 3 => ("FilledForOne$Day", "line", "[I", true)
  | 4 => ("FilledForOne$Day", "known", "I", false)
  | 5 => ("FilledForOne$Day", "lined", "I", false)
  | 6 => ("FilledForOne$Day", "minute", "I", false)
  | _ => ("FilledForOne$Day", "boils", "I", false)
def tyX2 : Nat → FieldType := fun k => match k with
  | 0 => .array .int
  | 1 => .array (.object "FilledForOne$Comer")
  | 2 => .array (.object "FilledForOne$Kettle")
  | 3 => .array .int
  | 4 => .int
  | 5 => .int
  | 6 => .int
  | _ => .int
abbrev wsX20 : List Cond := u_ws RX2 TX2 8
theorem nmX2 : ∀ a, a < 8 → ∀ b, b < 8 → a ≠ b → (TX2 a).2.1 ≠ (TX2 b).2.1 := by decide +kernel
theorem tyX2_ok : ∀ k, k < 8 → parseFieldDescriptor (TX2 k).2.2.1 = some (tyX2 k) := by decide +kernel
abbrev cX2_init : ByteArray := prog_4_method_1_code
def yX2_init : MethodName := ⟨RX2, "<init>", "()V"⟩
abbrev cX2_copy : ByteArray := prog_4_method_2_code
def yX2_copy : MethodName := ⟨RX2, "copy", "(LFilledForOne$Day;)V"⟩
abbrev cX2_begin : ByteArray := prog_4_method_3_code
def yX2_begin : MethodName := ⟨RX2, "begin", "()V"⟩
abbrev cX2_hasComer : ByteArray := prog_4_method_4_code
def yX2_hasComer : MethodName := ⟨RX2, "hasComer", "(I)Z"⟩
abbrev cX2_kettlesInUse : ByteArray := prog_4_method_5_code
def yX2_kettlesInUse : MethodName := ⟨RX2, "kettlesInUse", "()I"⟩
abbrev cX2_settingRefusal : ByteArray := prog_4_method_6_code
def yX2_settingRefusal : MethodName := ⟨RX2, "settingRefusal", "(II)I"⟩
abbrev cX2_change : ByteArray := prog_4_method_7_code
def yX2_change : MethodName := ⟨RX2, "change", "(II)I"⟩
abbrev cX2_add : ByteArray := prog_4_method_8_code
def yX2_add : MethodName := ⟨RX2, "add", "(IIIII)Z"⟩
abbrev cX2_isOver : ByteArray := prog_4_method_9_code
def yX2_isOver : MethodName := ⟨RX2, "isOver", "()Z"⟩
abbrev cX2_allFree : ByteArray := prog_4_method_10_code
def yX2_allFree : MethodName := ⟨RX2, "allFree", "()Z"⟩
abbrev cX2_pass : ByteArray := prog_4_method_11_code
def yX2_pass : MethodName := ⟨RX2, "pass", "(I)V"⟩
abbrev cX2_passMinute : ByteArray := prog_4_method_12_code
def yX2_passMinute : MethodName := ⟨RX2, "passMinute", "()V"⟩
abbrev cX2_lineUp : ByteArray := prog_4_method_13_code
def yX2_lineUp : MethodName := ⟨RX2, "lineUp", "()V"⟩
abbrev cX2_loseImpatient : ByteArray := prog_4_method_14_code
def yX2_loseImpatient : MethodName := ⟨RX2, "loseImpatient", "()V"⟩
abbrev cX2_serve : ByteArray := prog_4_method_15_code
def yX2_serve : MethodName := ⟨RX2, "serve", "(I)Z"⟩
abbrev cX2_boil : ByteArray := prog_4_method_16_code
def yX2_boil : MethodName := ⟨RX2, "boil", "(I)V"⟩
abbrev cX2_firstReady : ByteArray := prog_4_method_17_code
def yX2_firstReady : MethodName := ⟨RX2, "firstReady", "(I)LFilledForOne$Kettle;"⟩
abbrev cX2_firstFree : ByteArray := prog_4_method_18_code
def yX2_firstFree : MethodName := ⟨RX2, "firstFree", "()LFilledForOne$Kettle;"⟩
abbrev cX2_waitsForOwn : ByteArray := prog_4_method_19_code
def yX2_waitsForOwn : MethodName := ⟨RX2, "waitsForOwn", "(I)Z"⟩
abbrev cX2_closeUp : ByteArray := prog_4_method_20_code
def yX2_closeUp : MethodName := ⟨RX2, "closeUp", "()V"⟩
abbrev cX2_coolDown : ByteArray := prog_4_method_21_code
def yX2_coolDown : MethodName := ⟨RX2, "coolDown", "()V"⟩
abbrev cX2_upTo : ByteArray := prog_4_method_22_code
def yX2_upTo : MethodName := ⟨RX2, "upTo", "(LFilledForOne$Comer;I)I"⟩
abbrev cX2_wantsInLine : ByteArray := prog_4_method_23_code
def yX2_wantsInLine : MethodName := ⟨RX2, "wantsInLine", "()I"⟩
abbrev cX2_wantsToCome : ByteArray := prog_4_method_24_code
def yX2_wantsToCome : MethodName := ⟨RX2, "wantsToCome", "(I)I"⟩
abbrev cX2_kindsThatFill : ByteArray := prog_4_method_25_code
def yX2_kindsThatFill : MethodName := ⟨RX2, "kindsThatFill", "(I)I"⟩
abbrev cX2_comersWith : ByteArray := prog_4_method_26_code
def yX2_comersWith : MethodName := ⟨RX2, "comersWith", "(I)I"⟩
abbrev cX2_someoneWantsTooMuch : ByteArray := prog_4_method_27_code
def yX2_someoneWantsTooMuch : MethodName := ⟨RX2, "someoneWantsTooMuch", "()Z"⟩
abbrev cX2_allWaited : ByteArray := prog_4_method_28_code
def yX2_allWaited : MethodName := ⟨RX2, "allWaited", "()I"⟩
abbrev cX2_cupsLeft : ByteArray := prog_4_method_29_code
def yX2_cupsLeft : MethodName := ⟨RX2, "cupsLeft", "()I"⟩
abbrev cX2_highestLevel : ByteArray := prog_4_method_30_code
def yX2_highestLevel : MethodName := ⟨RX2, "highestLevel", "()I"⟩
abbrev cX2_cost : ByteArray := prog_4_method_31_code
def yX2_cost : MethodName := ⟨RX2, "cost", "()I"⟩
def RX3 : String := "FilledForOne$Kettle"
def TX3 : u_T := fun k => match k with
  | 0 => ("FilledForOne$Kettle", "level", "I", false)
  | 1 => ("FilledForOne$Kettle", "warmth", "I", false)
  | 2 => ("FilledForOne$Kettle", "age", "I", false)
  | 3 => ("FilledForOne$Kettle", "busyTill", "I", false)
  | _ => ("FilledForOne$Kettle", "putOnBy", "I", false)
def tyX3 : Nat → FieldType := fun k => match k with
  | 0 => .int
  | 1 => .int
  | 2 => .int
  | 3 => .int
  | _ => .int
abbrev wsX30 : List Cond := u_ws RX3 TX3 5
theorem nmX3 : ∀ a, a < 5 → ∀ b, b < 5 → a ≠ b → (TX3 a).2.1 ≠ (TX3 b).2.1 := by decide +kernel
theorem tyX3_ok : ∀ k, k < 5 → parseFieldDescriptor (TX3 k).2.2.1 = some (tyX3 k) := by decide +kernel
abbrev cX3_init : ByteArray := prog_5_method_1_code
def yX3_init : MethodName := ⟨RX3, "<init>", "()V"⟩
abbrev cX3_copy : ByteArray := prog_5_method_2_code
def yX3_copy : MethodName := ⟨RX3, "copy", "(LFilledForOne$Kettle;)V"⟩
abbrev cX3_begin : ByteArray := prog_5_method_3_code
def yX3_begin : MethodName := ⟨RX3, "begin", "()V"⟩
abbrev cX3_isFree : ByteArray := prog_5_method_4_code
def yX3_isFree : MethodName := ⟨RX3, "isFree", "(I)Z"⟩
abbrev cX3_isReady : ByteArray := prog_5_method_5_code
def yX3_isReady : MethodName := ⟨RX3, "isReady", "(II)Z"⟩
abbrev cX3_fill : ByteArray := prog_5_method_6_code
def yX3_fill : MethodName := ⟨RX3, "fill", "(I)V"⟩
abbrev cX3_putOn : ByteArray := prog_5_method_7_code
def yX3_putOn : MethodName := ⟨RX3, "putOn", "(III)V"⟩
abbrev cX3_cool : ByteArray := prog_5_method_8_code
def yX3_cool : MethodName := ⟨RX3, "cool", "(I)V"⟩
abbrev cX3_tell : ByteArray := prog_5_method_9_code
def yX3_tell : MethodName := ⟨RX3, "tell", "(II)I"⟩
def RX4 : String := "FilledForOne$Letters"
def TX4 : u_T := fun k => match k with
  | 0 => ("FilledForOne$Letters", "text", "[I", true)
  | 1 => ("FilledForOne$Letters", "length", "I", false)
  | _ => ("FilledForOne$Letters", "at", "I", false)
def tyX4 : Nat → FieldType := fun k => match k with
  | 0 => .array .int
  | 1 => .int
  | _ => .int
abbrev wsX40 : List Cond := u_ws RX4 TX4 3
theorem nmX4 : ∀ a, a < 3 → ∀ b, b < 3 → a ≠ b → (TX4 a).2.1 ≠ (TX4 b).2.1 := by decide +kernel
theorem tyX4_ok : ∀ k, k < 3 → parseFieldDescriptor (TX4 k).2.2.1 = some (tyX4 k) := by decide +kernel
abbrev cX4_init : ByteArray := prog_6_method_1_code
def yX4_init : MethodName := ⟨RX4, "<init>", "()V"⟩
abbrev cX4_append : ByteArray := prog_6_method_2_code
def yX4_append : MethodName := ⟨RX4, "append", "(I)I"⟩
abbrev cX4_read : ByteArray := prog_6_method_3_code
def yX4_read : MethodName := ⟨RX4, "read", "(LFilledForOne$Day;)I"⟩
abbrev cX4_skipStatement : ByteArray := prog_6_method_4_code
def yX4_skipStatement : MethodName := ⟨RX4, "skipStatement", "()Z"⟩
abbrev cX4_skip : ByteArray := prog_6_method_5_code
def yX4_skip : MethodName := ⟨RX4, "skip", "(C)Z"⟩
abbrev cX4_skipDigits : ByteArray := prog_6_method_6_code
def yX4_skipDigits : MethodName := ⟨RX4, "skipDigits", "(I)Z"⟩
abbrev cX4_carryOut : ByteArray := prog_6_method_7_code
def yX4_carryOut : MethodName := ⟨RX4, "carryOut", "(LFilledForOne$Day;I)Z"⟩
abbrev cX4_number : ByteArray := prog_6_method_8_code
def yX4_number : MethodName := ⟨RX4, "number", "(II)I"⟩
abbrev cX4_letterAt : ByteArray := prog_6_method_9_code
def yX4_letterAt : MethodName := ⟨RX4, "letterAt", "(I)I"⟩
def RX5 : String := "FilledForOne$Mind"
def TX5 : u_T := fun k => match k with
  | 0 => ("FilledForOne$Mind", "day", "LFilledForOne$Day;", true)
  | _ => ("FilledForOne$Mind", "seed", "I", false)
def tyX5 : Nat → FieldType := fun k => match k with
  | 0 => .object "FilledForOne$Day"
  | _ => .int
abbrev wsX50 : List Cond := u_ws RX5 TX5 2
theorem nmX5 : ∀ a, a < 2 → ∀ b, b < 2 → a ≠ b → (TX5 a).2.1 ≠ (TX5 b).2.1 := by decide +kernel
theorem tyX5_ok : ∀ k, k < 2 → parseFieldDescriptor (TX5 k).2.2.1 = some (tyX5 k) := by decide +kernel
abbrev cX5_init : ByteArray := prog_7_method_1_code
def yX5_init : MethodName := ⟨RX5, "<init>", "()V"⟩
abbrev cX5_take : ByteArray := prog_7_method_2_code
def yX5_take : MethodName := ⟨RX5, "take", "(LFilledForOne$Day;)V"⟩
abbrev cX5_restOfDay : ByteArray := prog_7_method_3_code
def yX5_restOfDay : MethodName := ⟨RX5, "restOfDay", "(I)I"⟩
abbrev cX5_servedAt : ByteArray := prog_7_method_4_code
def yX5_servedAt : MethodName := ⟨RX5, "servedAt", "(I)I"⟩
abbrev cX5_costAnew : ByteArray := prog_7_method_5_code
def yX5_costAnew : MethodName := ⟨RX5, "costAnew", "()I"⟩
abbrev cX5_bestKind : ByteArray := prog_7_method_6_code
def yX5_bestKind : MethodName := ⟨RX5, "bestKind", "(IZ)I"⟩
abbrev cX5_playRounds : ByteArray := prog_7_method_7_code
def yX5_playRounds : MethodName := ⟨RX5, "playRounds", "()I"⟩
abbrev cX5_kindDigits : ByteArray := prog_7_method_8_code
def yX5_kindDigits : MethodName := ⟨RX5, "kindDigits", "()I"⟩
abbrev cX5_lostByKinds : ByteArray := prog_7_method_9_code
def yX5_lostByKinds : MethodName := ⟨RX5, "lostByKinds", "()I"⟩
abbrev cX5_bestMark : ByteArray := prog_7_method_10_code
def yX5_bestMark : MethodName := ⟨RX5, "bestMark", "(Z)I"⟩
abbrev cX5_savedBySecond : ByteArray := prog_7_method_11_code
def yX5_savedBySecond : MethodName := ⟨RX5, "savedBySecond", "()I"⟩
abbrev cX5_comerToFollow : ByteArray := prog_7_method_12_code
def yX5_comerToFollow : MethodName := ⟨RX5, "comerToFollow", "(LFilledForOne$Day;)I"⟩
abbrev cX5_firstOtherLevel : ByteArray := prog_7_method_13_code
def yX5_firstOtherLevel : MethodName := ⟨RX5, "firstOtherLevel", "([II)I"⟩
abbrev cX5_drawnDays : ByteArray := prog_7_method_14_code
def yX5_drawnDays : MethodName := ⟨RX5, "drawnDays", "(IIZ)I"⟩
abbrev cX5_draw : ByteArray := prog_7_method_15_code
def yX5_draw : MethodName := ⟨RX5, "draw", "(I)I"⟩
def RX6 : String := "FilledForOne"
def TX6 : u_T := fun k => match k with
  | 0 => ("FilledForOne", "now", "LFilledForOne$Day;", true)
  | 1 => ("FilledForOne", "kept", "LFilledForOne$Day;", true)
  | 2 => ("FilledForOne", "mind", "LFilledForOne$Mind;", true)
  | 3 => ("FilledForOne", "arrivals", "LFilledForOne$Arrivals;", true)
  | 4 => ("FilledForOne", "letters", "LFilledForOne$Letters;", true)
  | 5 => ("FilledForOne", "row", "[I", true)
  | 6 => ("FilledForOne", "refusals", "[I", true)
  | 7 => ("FilledForOne", "inRow", "I", false)
  | _ => ("FilledForOne", "imageTaken", "Z", false)
def tyX6 : Nat → FieldType := fun k => match k with
  | 0 => .object "FilledForOne$Day"
  | 1 => .object "FilledForOne$Day"
  | 2 => .object "FilledForOne$Mind"
  | 3 => .object "FilledForOne$Arrivals"
  | 4 => .object "FilledForOne$Letters"
  | 5 => .array .int
  | 6 => .array .int
  | 7 => .int
  | _ => .boolean
abbrev wsX60 : List Cond := u_ws RX6 TX6 9
theorem nmX6 : ∀ a, a < 9 → ∀ b, b < 9 → a ≠ b → (TX6 a).2.1 ≠ (TX6 b).2.1 := by decide +kernel
theorem tyX6_ok : ∀ k, k < 9 → parseFieldDescriptor (TX6 k).2.2.1 = some (tyX6 k) := by decide +kernel
abbrev cX6_init : ByteArray := prog_1_method_1_code
def yX6_init : MethodName := ⟨RX6, "<init>", "()V"⟩
abbrev cX6_feed : ByteArray := prog_1_method_2_code
def yX6_feed : MethodName := ⟨RX6, "feed", "(I)I"⟩
abbrev cX6_office : ByteArray := prog_1_method_3_code
def yX6_office : MethodName := ⟨RX6, "office", "()I"⟩
abbrev cX6_comer : ByteArray := prog_1_method_4_code
def yX6_comer : MethodName := ⟨RX6, "comer", "(II)I"⟩
abbrev cX6_kind : ByteArray := prog_1_method_5_code
def yX6_kind : MethodName := ⟨RX6, "kind", "(III)I"⟩
abbrev cX6_kettle : ByteArray := prog_1_method_6_code
def yX6_kettle : MethodName := ⟨RX6, "kettle", "(II)I"⟩
abbrev cX6_set : ByteArray := prog_1_method_7_code
def yX6_set : MethodName := ⟨RX6, "set", "(II)I"⟩
abbrev cX6_go : ByteArray := prog_1_method_8_code
def yX6_go : MethodName := ⟨RX6, "go", "(I)I"⟩
abbrev cX6_anew : ByteArray := prog_1_method_9_code
def yX6_anew : MethodName := ⟨RX6, "anew", "()I"⟩
abbrev cX6_line : ByteArray := prog_1_method_10_code
def yX6_line : MethodName := ⟨RX6, "line", "(I)I"⟩
abbrev cX6_rest : ByteArray := prog_1_method_11_code
def yX6_rest : MethodName := ⟨RX6, "rest", "(I)I"⟩
abbrev cX6_when : ByteArray := prog_1_method_12_code
def yX6_when : MethodName := ⟨RX6, "when", "(I)I"⟩
abbrev cX6_best : ByteArray := prog_1_method_13_code
def yX6_best : MethodName := ⟨RX6, "best", "(II)I"⟩
abbrev cX6_rounds : ByteArray := prog_1_method_14_code
def yX6_rounds : MethodName := ⟨RX6, "rounds", "(I)I"⟩
abbrev cX6_marks : ByteArray := prog_1_method_15_code
def yX6_marks : MethodName := ⟨RX6, "marks", "(I)I"⟩
abbrev cX6_second : ByteArray := prog_1_method_16_code
def yX6_second : MethodName := ⟨RX6, "second", "()I"⟩
abbrev cX6_urn : ByteArray := prog_1_method_17_code
def yX6_urn : MethodName := ⟨RX6, "urn", "(I)I"⟩
abbrev cX6_least : ByteArray := prog_1_method_18_code
def yX6_least : MethodName := ⟨RX6, "least", "(I)I"⟩
abbrev cX6_ferry : ByteArray := prog_1_method_19_code
def yX6_ferry : MethodName := ⟨RX6, "ferry", "(II)I"⟩
abbrev cX6_times : ByteArray := prog_1_method_20_code
def yX6_times : MethodName := ⟨RX6, "times", "(I)I"⟩
abbrev cX6_better : ByteArray := prog_1_method_21_code
def yX6_better : MethodName := ⟨RX6, "better", "(I)I"⟩
abbrev cX6_follow : ByteArray := prog_1_method_22_code
def yX6_follow : MethodName := ⟨RX6, "follow", "()I"⟩
abbrev cX6_row : ByteArray := prog_1_method_23_code
def yX6_row : MethodName := ⟨RX6, "row", "(I)I"⟩
abbrev cX6_judge : ByteArray := prog_1_method_24_code
def yX6_judge : MethodName := ⟨RX6, "judge", "()I"⟩
abbrev cX6_fits : ByteArray := prog_1_method_25_code
def yX6_fits : MethodName := ⟨RX6, "fits", "(I)I"⟩
abbrev cX6_seeds : ByteArray := prog_1_method_26_code
def yX6_seeds : MethodName := ⟨RX6, "seeds", "(III)I"⟩
abbrev cX6_image : ByteArray := prog_1_method_27_code
def yX6_image : MethodName := ⟨RX6, "image", "()I"⟩
abbrev cX6_restore : ByteArray := prog_1_method_28_code
def yX6_restore : MethodName := ⟨RX6, "restore", "()I"⟩
abbrev cX6_count : ByteArray := prog_1_method_29_code
def yX6_count : MethodName := ⟨RX6, "count", "(I)I"⟩
abbrev cX6_refuse : ByteArray := prog_1_method_30_code
def yX6_refuse : MethodName := ⟨RX6, "refuse", "(I)I"⟩
abbrev cX6_heatingMinutes : ByteArray := prog_1_method_31_code
def yX6_heatingMinutes : MethodName := ⟨RX6, "heatingMinutes", "(III)I"⟩
def RX7 : String := "FilledForOneModel"
def TX7 : u_T := fun k => match k with
  | 0 => ("FilledForOneModel", "refused", "[I", true)
  | 1 => ("FilledForOneModel", "setting", "[I", true)
  | 2 => ("FilledForOneModel", "kind", "[I", true)
  | 3 => ("FilledForOneModel", "figure", "[I", true)
  | 4 => ("FilledForOneModel", "comes", "[I", true)
  | 5 => ("FilledForOneModel", "wants", "[I", true)
  | 6 => ("FilledForOneModel", "patience", "[I", true)
  | 7 => ("FilledForOneModel", "state", "[I", true)
  | 8 => ("FilledForOneModel", "waited", "[I", true)
  | 9 => ("FilledForOneModel", "line", "[I", true)
  | 10 => ("FilledForOneModel", "level", "[I", true)
  | 11 => ("FilledForOneModel", "warmth", "[I", true)
  | 12 => ("FilledForOneModel", "age", "[I", true)
  | 13 => ("FilledForOneModel", "busyTill", "[I", true)
  | 14 => ("FilledForOneModel", "putBy", "[I", true)
  | 15 => ("FilledForOneModel", "comers", "I", false)
  | 16 => ("FilledForOneModel", "minute", "I", false)
  | 17 => ("FilledForOneModel", "lineMany", "I", false)
  | 18 => ("FilledForOneModel", "putOn", "I", false)
  | 19 => ("FilledForOneModel", "tape", "[I", true)
  | 20 => ("FilledForOneModel", "letter", "[I", true)
  | 21 => ("FilledForOneModel", "letterAt", "[I", true)
  | 22 => ("FilledForOneModel", "told", "[I", true)
  | 23 => ("FilledForOneModel", "taped", "I", false)
  | 24 => ("FilledForOneModel", "at", "I", false)
  | 25 => ("FilledForOneModel", "statements", "I", false)
  | 26 => ("FilledForOneModel", "kept", "[I", true)
  | 27 => ("FilledForOneModel", "hasImage", "Z", false)
  | 28 => ("FilledForOneModel", "isKeeping", "Z", false)
  | 29 => ("FilledForOneModel", "cursor", "I", false)
  | 30 => ("FilledForOneModel", "byMinute", "[I", true)
  | 31 => ("FilledForOneModel", "row", "[I", true)
  | _ => ("FilledForOneModel", "rowMany", "I", false)
def tyX7 : Nat → FieldType := fun k => match k with
  | 0 => .array .int
  | 1 => .array .int
  | 2 => .array .int
  | 3 => .array .int
  | 4 => .array .int
  | 5 => .array .int
  | 6 => .array .int
  | 7 => .array .int
  | 8 => .array .int
  | 9 => .array .int
  | 10 => .array .int
  | 11 => .array .int
  | 12 => .array .int
  | 13 => .array .int
  | 14 => .array .int
  | 15 => .int
  | 16 => .int
  | 17 => .int
  | 18 => .int
  | 19 => .array .int
  | 20 => .array .int
  | 21 => .array .int
  | 22 => .array .int
  | 23 => .int
  | 24 => .int
  | 25 => .int
  | 26 => .array .int
  | 27 => .boolean
  | 28 => .boolean
  | 29 => .int
  | 30 => .array .int
  | 31 => .array .int
  | _ => .int
abbrev wsX70 : List Cond := u_ws RX7 TX7 33
theorem nmX7 : ∀ a, a < 33 → ∀ b, b < 33 → a ≠ b → (TX7 a).2.1 ≠ (TX7 b).2.1 := by decide +kernel
theorem tyX7_ok : ∀ k, k < 33 → parseFieldDescriptor (TX7 k).2.2.1 = some (tyX7 k) := by decide +kernel
abbrev cX7_init : ByteArray := prog_9_method_1_code
def yX7_init : MethodName := ⟨RX7, "<init>", "()V"⟩
abbrev cX7_no : ByteArray := prog_9_method_2_code
def yX7_no : MethodName := ⟨RX7, "no", "(I)I"⟩
abbrev cX7_lower : ByteArray := prog_9_method_3_code
def yX7_lower : MethodName := ⟨RX7, "lower", "(I)I"⟩
abbrev cX7_isIn : ByteArray := prog_9_method_4_code
def yX7_isIn : MethodName := ⟨RX7, "isIn", "(III)Z"⟩
abbrev cX7_bound : ByteArray := prog_9_method_5_code
def yX7_bound : MethodName := ⟨RX7, "bound", "(III)I"⟩
abbrev cX7_leastOf : ByteArray := prog_9_method_6_code
def yX7_leastOf : MethodName := ⟨RX7, "leastOf", "(I)I"⟩
abbrev cX7_mostOf : ByteArray := prog_9_method_7_code
def yX7_mostOf : MethodName := ⟨RX7, "mostOf", "(I)I"⟩
abbrev cX7_isComer : ByteArray := prog_9_method_8_code
def yX7_isComer : MethodName := ⟨RX7, "isComer", "(I)Z"⟩
abbrev cX7_feed : ByteArray := prog_9_method_9_code
def yX7_feed : MethodName := ⟨RX7, "feed", "(I)I"⟩
abbrev cX7_next : ByteArray := prog_9_method_10_code
def yX7_next : MethodName := ⟨RX7, "next", "()I"⟩
abbrev cX7_readsNumber : ByteArray := prog_9_method_11_code
def yX7_readsNumber : MethodName := ⟨RX7, "readsNumber", "(III)Z"⟩
abbrev cX7_readsSetting : ByteArray := prog_9_method_12_code
def yX7_readsSetting : MethodName := ⟨RX7, "readsSetting", "(I)Z"⟩
abbrev cX7_readsComer : ByteArray := prog_9_method_13_code
def yX7_readsComer : MethodName := ⟨RX7, "readsComer", "(I)Z"⟩
abbrev cX7_statement : ByteArray := prog_9_method_14_code
def yX7_statement : MethodName := ⟨RX7, "statement", "()Z"⟩
abbrev cX7_notSet : ByteArray := prog_9_method_15_code
def yX7_notSet : MethodName := ⟨RX7, "notSet", "(II)I"⟩
abbrev cX7_comesOne : ByteArray := prog_9_method_16_code
def yX7_comesOne : MethodName := ⟨RX7, "comesOne", "(I)Z"⟩
abbrev cX7_comesAs : ByteArray := prog_9_method_17_code
def yX7_comesAs : MethodName := ⟨RX7, "comesAs", "(I)Z"⟩
abbrev cX7_office : ByteArray := prog_9_method_18_code
def yX7_office : MethodName := ⟨RX7, "office", "()I"⟩
abbrev cX7_passes : ByteArray := prog_9_method_19_code
def yX7_passes : MethodName := ⟨RX7, "passes", "([I)V"⟩
abbrev cX7_passOne : ByteArray := prog_9_method_20_code
def yX7_passOne : MethodName := ⟨RX7, "passOne", "(I)I"⟩
abbrev cX7_passesAll : ByteArray := prog_9_method_21_code
def yX7_passesAll : MethodName := ⟨RX7, "passesAll", "(IZ)V"⟩
abbrev cX7_image : ByteArray := prog_9_method_22_code
def yX7_image : MethodName := ⟨RX7, "image", "()I"⟩
abbrev cX7_restore : ByteArray := prog_9_method_23_code
def yX7_restore : MethodName := ⟨RX7, "restore", "()I"⟩
abbrev cX7_wantsInLine : ByteArray := prog_9_method_24_code
def yX7_wantsInLine : MethodName := ⟨RX7, "wantsInLine", "()I"⟩
abbrev cX7_wantsSoon : ByteArray := prog_9_method_25_code
def yX7_wantsSoon : MethodName := ⟨RX7, "wantsSoon", "(I)I"⟩
abbrev cX7_cupsBy : ByteArray := prog_9_method_26_code
def yX7_cupsBy : MethodName := ⟨RX7, "cupsBy", "(II)I"⟩
abbrev cX7_upTo : ByteArray := prog_9_method_27_code
def yX7_upTo : MethodName := ⟨RX7, "upTo", "(II)I"⟩
abbrev cX7_isFree : ByteArray := prog_9_method_28_code
def yX7_isFree : MethodName := ⟨RX7, "isFree", "(I)Z"⟩
abbrev cX7_boilTime : ByteArray := prog_9_method_29_code
def yX7_boilTime : MethodName := ⟨RX7, "boilTime", "(II)I"⟩
abbrev cX7_putsOn : ByteArray := prog_9_method_30_code
def yX7_putsOn : MethodName := ⟨RX7, "putsOn", "(II)V"⟩
abbrev cX7_hotFor : ByteArray := prog_9_method_31_code
def yX7_hotFor : MethodName := ⟨RX7, "hotFor", "(I)I"⟩
abbrev cX7_freeFor : ByteArray := prog_9_method_32_code
def yX7_freeFor : MethodName := ⟨RX7, "freeFor", "(I)I"⟩
abbrev cX7_isServed : ByteArray := prog_9_method_33_code
def yX7_isServed : MethodName := ⟨RX7, "isServed", "(I)Z"⟩
abbrev cX7_leaves : ByteArray := prog_9_method_34_code
def yX7_leaves : MethodName := ⟨RX7, "leaves", "(I)V"⟩
abbrev cX7_cools : ByteArray := prog_9_method_35_code
def yX7_cools : MethodName := ⟨RX7, "cools", "()V"⟩
abbrev cX7_goesMinute : ByteArray := prog_9_method_36_code
def yX7_goesMinute : MethodName := ⟨RX7, "goesMinute", "()V"⟩
abbrev cX7_isOver : ByteArray := prog_9_method_37_code
def yX7_isOver : MethodName := ⟨RX7, "isOver", "()Z"⟩
abbrev cX7_goesToEnd : ByteArray := prog_9_method_38_code
def yX7_goesToEnd : MethodName := ⟨RX7, "goesToEnd", "()V"⟩
abbrev cX7_begins : ByteArray := prog_9_method_39_code
def yX7_begins : MethodName := ⟨RX7, "begins", "()V"⟩
abbrev cX7_stateMany : ByteArray := prog_9_method_40_code
def yX7_stateMany : MethodName := ⟨RX7, "stateMany", "(I)I"⟩
abbrev cX7_waitedAll : ByteArray := prog_9_method_41_code
def yX7_waitedAll : MethodName := ⟨RX7, "waitedAll", "()I"⟩
abbrev cX7_costNow : ByteArray := prog_9_method_42_code
def yX7_costNow : MethodName := ⟨RX7, "costNow", "()I"⟩
abbrev cX7_costAnew : ByteArray := prog_9_method_43_code
def yX7_costAnew : MethodName := ⟨RX7, "costAnew", "()I"⟩
abbrev cX7_comer : ByteArray := prog_9_method_44_code
def yX7_comer : MethodName := ⟨RX7, "comer", "(II)I"⟩
abbrev cX7_kind : ByteArray := prog_9_method_45_code
def yX7_kind : MethodName := ⟨RX7, "kind", "(III)I"⟩
abbrev cX7_kettle : ByteArray := prog_9_method_46_code
def yX7_kettle : MethodName := ⟨RX7, "kettle", "(II)I"⟩
abbrev cX7_set : ByteArray := prog_9_method_47_code
def yX7_set : MethodName := ⟨RX7, "set", "(II)I"⟩
abbrev cX7_go : ByteArray := prog_9_method_48_code
def yX7_go : MethodName := ⟨RX7, "go", "(I)I"⟩
abbrev cX7_anew : ByteArray := prog_9_method_49_code
def yX7_anew : MethodName := ⟨RX7, "anew", "()I"⟩
abbrev cX7_line : ByteArray := prog_9_method_50_code
def yX7_line : MethodName := ⟨RX7, "line", "(I)I"⟩
abbrev cX7_rest : ByteArray := prog_9_method_51_code
def yX7_rest : MethodName := ⟨RX7, "rest", "(I)I"⟩
abbrev cX7_when : ByteArray := prog_9_method_52_code
def yX7_when : MethodName := ⟨RX7, "when", "(I)I"⟩
abbrev cX7_bestKind : ByteArray := prog_9_method_53_code
def yX7_bestKind : MethodName := ⟨RX7, "bestKind", "(II)I"⟩
abbrev cX7_best : ByteArray := prog_9_method_54_code
def yX7_best : MethodName := ⟨RX7, "best", "(II)I"⟩
abbrev cX7_goesRounds : ByteArray := prog_9_method_55_code
def yX7_goesRounds : MethodName := ⟨RX7, "goesRounds", "()I"⟩
abbrev cX7_kindsDigits : ByteArray := prog_9_method_56_code
def yX7_kindsDigits : MethodName := ⟨RX7, "kindsDigits", "()I"⟩
abbrev cX7_leastOfOneKind : ByteArray := prog_9_method_57_code
def yX7_leastOfOneKind : MethodName := ⟨RX7, "leastOfOneKind", "()I"⟩
abbrev cX7_rounds : ByteArray := prog_9_method_58_code
def yX7_rounds : MethodName := ⟨RX7, "rounds", "(I)I"⟩
abbrev cX7_marks : ByteArray := prog_9_method_59_code
def yX7_marks : MethodName := ⟨RX7, "marks", "(I)I"⟩
abbrev cX7_second : ByteArray := prog_9_method_60_code
def yX7_second : MethodName := ⟨RX7, "second", "()I"⟩
abbrev cX7_hours : ByteArray := prog_9_method_61_code
def yX7_hours : MethodName := ⟨RX7, "hours", "()I"⟩
abbrev cX7_urn : ByteArray := prog_9_method_62_code
def yX7_urn : MethodName := ⟨RX7, "urn", "(I)I"⟩
abbrev cX7_sorts : ByteArray := prog_9_method_63_code
def yX7_sorts : MethodName := ⟨RX7, "sorts", "()V"⟩
abbrev cX7_costOfRows : ByteArray := prog_9_method_64_code
def yX7_costOfRows : MethodName := ⟨RX7, "costOfRows", "(I)I"⟩
abbrev cX7_least : ByteArray := prog_9_method_65_code
def yX7_least : MethodName := ⟨RX7, "least", "(I)I"⟩
abbrev cX7_ferryBy : ByteArray := prog_9_method_66_code
def yX7_ferryBy : MethodName := ⟨RX7, "ferryBy", "(II)I"⟩
abbrev cX7_timesBy : ByteArray := prog_9_method_67_code
def yX7_timesBy : MethodName := ⟨RX7, "timesBy", "(I)I"⟩
abbrev cX7_ferry : ByteArray := prog_9_method_68_code
def yX7_ferry : MethodName := ⟨RX7, "ferry", "(II)I"⟩
abbrev cX7_times : ByteArray := prog_9_method_69_code
def yX7_times : MethodName := ⟨RX7, "times", "(I)I"⟩
abbrev cX7_better : ByteArray := prog_9_method_70_code
def yX7_better : MethodName := ⟨RX7, "better", "(I)I"⟩
abbrev cX7_follow : ByteArray := prog_9_method_71_code
def yX7_follow : MethodName := ⟨RX7, "follow", "()I"⟩
abbrev cX7_row : ByteArray := prog_9_method_72_code
def yX7_row : MethodName := ⟨RX7, "row", "(I)I"⟩
abbrev cX7_judge : ByteArray := prog_9_method_73_code
def yX7_judge : MethodName := ⟨RX7, "judge", "()I"⟩
abbrev cX7_fits : ByteArray := prog_9_method_74_code
def yX7_fits : MethodName := ⟨RX7, "fits", "(I)I"⟩
abbrev cX7_seeds : ByteArray := prog_9_method_75_code
def yX7_seeds : MethodName := ⟨RX7, "seeds", "(III)I"⟩
abbrev cX7_count : ByteArray := prog_9_method_76_code
def yX7_count : MethodName := ⟨RX7, "count", "(I)I"⟩
def RJx8e188 : String := "java/lang/Cloneable"
def TJx8e188 : u_T := fun k => match k with
  | _ => ("", "", "", false)
def tyJx8e188 : Nat → FieldType := fun k => match k with
  | _ => .int
abbrev wsJx8e1880 : List Cond := u_ws RJx8e188 TJx8e188 0
theorem nmJx8e188 : ∀ a, a < 0 → ∀ b, b < 0 → a ≠ b → (TJx8e188 a).2.1 ≠ (TJx8e188 b).2.1 := by decide +kernel
theorem tyJx8e188_ok : ∀ k, k < 0 → parseFieldDescriptor (TJx8e188 k).2.2.1 = some (tyJx8e188 k) := by decide +kernel
def RJ9 : String := "java/lang/Math"
def TJ9 : u_T := fun k => match k with
  | _ => ("", "", "", false)
def tyJ9 : Nat → FieldType := fun k => match k with
  | _ => .int
abbrev wsJ90 : List Cond := u_ws RJ9 TJ9 0
theorem nmJ9 : ∀ a, a < 0 → ∀ b, b < 0 → a ≠ b → (TJ9 a).2.1 ≠ (TJ9 b).2.1 := by decide +kernel
theorem tyJ9_ok : ∀ k, k < 0 → parseFieldDescriptor (TJ9 k).2.2.1 = some (tyJ9 k) := by decide +kernel
abbrev cJ9_floorMod_7cf53 : ByteArray := prog_11_method_50_code
def yJ9_floorMod_7cf53 : MethodName := ⟨RJ9, "floorMod", "(II)I"⟩
abbrev cJ9_max_7cf53 : ByteArray := prog_11_method_65_code
def yJ9_max_7cf53 : MethodName := ⟨RJ9, "max", "(II)I"⟩
abbrev cJ9_min_7cf53 : ByteArray := prog_11_method_69_code
def yJ9_min_7cf53 : MethodName := ⟨RJ9, "min", "(II)I"⟩
def RJ10 : String := "java/lang/System"
def TJ10 : u_T := fun k => match k with
  | _ => ("", "", "", false)
def tyJ10 : Nat → FieldType := fun k => match k with
  | _ => .int
abbrev wsJ100 : List Cond := u_ws RJ10 TJ10 0
theorem nmJ10 : ∀ a, a < 0 → ∀ b, b < 0 → a ≠ b → (TJ10 a).2.1 ≠ (TJ10 b).2.1 := by decide +kernel
theorem tyJ10_ok : ∀ k, k < 0 → parseFieldDescriptor (TJ10 k).2.2.1 = some (tyJ10 k) := by decide +kernel
def RL : String := "FilledForOneLaw"
abbrev cL_law : ByteArray := code
def yL_law : MethodName := ⟨RL, "law", "([I)Z"⟩
abbrev vwCl : List vw_C := [(RX0, TX0, 3), (RX1, TX1, 7), (RX2, TX2, 8), (RX3, TX3, 5), (RX4, TX4, 3), (RX5, TX5, 2), (RX6, TX6, 9), (RX7, TX7, 33)]
end
section
theorem dX0_init_0 : decode cX0_init 0 = .ok (.aload_n 0, 1) := by decide +kernel
theorem dX0_init_1 : decode cX0_init 1 = .ok (.invokespecial 3, 3) := by decide +kernel
theorem dX0_init_4 : decode cX0_init 4 = .ok (.aload_n 0, 1) := by decide +kernel
theorem dX0_init_5 : decode cX0_init 5 = .ok (.bipush 8, 2) := by decide +kernel
theorem dX0_init_7 : decode cX0_init 7 = .ok (.newarray .int, 2) := by decide +kernel
theorem dX0_init_9 : decode cX0_init 9 = .ok (.putfield 9, 3) := by decide +kernel
theorem dX0_init_12 : decode cX0_init 12 = .ok (.aload_n 0, 1) := by decide +kernel
theorem dX0_init_13 : decode cX0_init 13 = .ok (.bipush 8, 2) := by decide +kernel
theorem dX0_init_15 : decode cX0_init 15 = .ok (.newarray .int, 2) := by decide +kernel
theorem dX0_init_17 : decode cX0_init 17 = .ok (.putfield 15, 3) := by decide +kernel
theorem dX0_init_20 : decode cX0_init 20 = .ok (.return_, 1) := by decide +kernel
theorem dX0_take_0 : decode cX0_take 0 = .ok (.aload_n 0, 1) := by decide +kernel
theorem dX0_take_1 : decode cX0_take 1 = .ok (.iconst 0, 1) := by decide +kernel
theorem dX0_take_2 : decode cX0_take 2 = .ok (.putfield 18, 3) := by decide +kernel
theorem dX0_take_5 : decode cX0_take 5 = .ok (.iconst 0, 1) := by decide +kernel
theorem dX0_take_6 : decode cX0_take 6 = .ok (.istore_n 2, 1) := by decide +kernel
theorem dX0_take_7 : decode cX0_take 7 = .ok (.iload_n 2, 1) := by decide +kernel
theorem dX0_take_8 : decode cX0_take 8 = .ok (.aload_n 1, 1) := by decide +kernel
theorem dX0_take_9 : decode cX0_take 9 = .ok (.getfield 22, 3) := by decide +kernel
theorem dX0_take_12 : decode cX0_take 12 = .ok (.if_icmp .ge 43, 3) := by decide +kernel
theorem dX0_take_15 : decode cX0_take 15 = .ok (.aload_n 0, 1) := by decide +kernel
theorem dX0_take_16 : decode cX0_take 16 = .ok (.getfield 18, 3) := by decide +kernel
theorem dX0_take_19 : decode cX0_take 19 = .ok (.aload_n 0, 1) := by decide +kernel
theorem dX0_take_20 : decode cX0_take 20 = .ok (.getfield 9, 3) := by decide +kernel
theorem dX0_take_23 : decode cX0_take 23 = .ok (.arraylength, 1) := by decide +kernel
theorem dX0_take_24 : decode cX0_take 24 = .ok (.if_icmp .ge 31, 3) := by decide +kernel
theorem dX0_take_27 : decode cX0_take 27 = .ok (.aload_n 0, 1) := by decide +kernel
theorem dX0_take_28 : decode cX0_take 28 = .ok (.aload_n 1, 1) := by decide +kernel
theorem dX0_take_29 : decode cX0_take 29 = .ok (.getfield 27, 3) := by decide +kernel
theorem dX0_take_32 : decode cX0_take 32 = .ok (.iload_n 2, 1) := by decide +kernel
theorem dX0_take_33 : decode cX0_take 33 = .ok (.aaload, 1) := by decide +kernel
theorem dX0_take_34 : decode cX0_take 34 = .ok (.getfield 31, 3) := by decide +kernel
theorem dX0_take_37 : decode cX0_take 37 = .ok (.aload_n 1, 1) := by decide +kernel
theorem dX0_take_38 : decode cX0_take 38 = .ok (.getfield 27, 3) := by decide +kernel
theorem dX0_take_41 : decode cX0_take 41 = .ok (.iload_n 2, 1) := by decide +kernel
theorem dX0_take_42 : decode cX0_take 42 = .ok (.aaload, 1) := by decide +kernel
theorem dX0_take_43 : decode cX0_take 43 = .ok (.getfield 36, 3) := by decide +kernel
theorem dX0_take_46 : decode cX0_take 46 = .ok (.invokevirtual 38, 3) := by decide +kernel
theorem dX0_take_49 : decode cX0_take 49 = .ok (.iinc 2 1, 3) := by decide +kernel
theorem dX0_take_52 : decode cX0_take 52 = .ok (.goto (-45), 3) := by decide +kernel
theorem dX0_take_55 : decode cX0_take 55 = .ok (.return_, 1) := by decide +kernel
theorem dX0_insert_0 : decode cX0_insert 0 = .ok (.aload_n 0, 1) := by decide +kernel
theorem dX0_insert_1 : decode cX0_insert 1 = .ok (.getfield 18, 3) := by decide +kernel
theorem dX0_insert_4 : decode cX0_insert 4 = .ok (.istore_n 3, 1) := by decide +kernel
theorem dX0_insert_5 : decode cX0_insert 5 = .ok (.iload_n 3, 1) := by decide +kernel
theorem dX0_insert_6 : decode cX0_insert 6 = .ok (.ifCond .le 49, 3) := by decide +kernel
theorem dX0_insert_9 : decode cX0_insert 9 = .ok (.aload_n 0, 1) := by decide +kernel
theorem dX0_insert_10 : decode cX0_insert 10 = .ok (.getfield 9, 3) := by decide +kernel
theorem dX0_insert_13 : decode cX0_insert 13 = .ok (.iload_n 3, 1) := by decide +kernel
theorem dX0_insert_14 : decode cX0_insert 14 = .ok (.iconst 1, 1) := by decide +kernel
theorem dX0_insert_15 : decode cX0_insert 15 = .ok (.isub, 1) := by decide +kernel
theorem dX0_insert_16 : decode cX0_insert 16 = .ok (.iaload, 1) := by decide +kernel
theorem dX0_insert_17 : decode cX0_insert 17 = .ok (.iload_n 1, 1) := by decide +kernel
theorem dX0_insert_18 : decode cX0_insert 18 = .ok (.if_icmp .le 37, 3) := by decide +kernel
theorem dX0_insert_21 : decode cX0_insert 21 = .ok (.aload_n 0, 1) := by decide +kernel
theorem dX0_insert_22 : decode cX0_insert 22 = .ok (.getfield 9, 3) := by decide +kernel
theorem dX0_insert_25 : decode cX0_insert 25 = .ok (.iload_n 3, 1) := by decide +kernel
theorem dX0_insert_26 : decode cX0_insert 26 = .ok (.aload_n 0, 1) := by decide +kernel
theorem dX0_insert_27 : decode cX0_insert 27 = .ok (.getfield 9, 3) := by decide +kernel
theorem dX0_insert_30 : decode cX0_insert 30 = .ok (.iload_n 3, 1) := by decide +kernel
theorem dX0_insert_31 : decode cX0_insert 31 = .ok (.iconst 1, 1) := by decide +kernel
theorem dX0_insert_32 : decode cX0_insert 32 = .ok (.isub, 1) := by decide +kernel
theorem dX0_insert_33 : decode cX0_insert 33 = .ok (.iaload, 1) := by decide +kernel
theorem dX0_insert_34 : decode cX0_insert 34 = .ok (.iastore, 1) := by decide +kernel
theorem dX0_insert_35 : decode cX0_insert 35 = .ok (.aload_n 0, 1) := by decide +kernel
theorem dX0_insert_36 : decode cX0_insert 36 = .ok (.getfield 15, 3) := by decide +kernel
theorem dX0_insert_39 : decode cX0_insert 39 = .ok (.iload_n 3, 1) := by decide +kernel
theorem dX0_insert_40 : decode cX0_insert 40 = .ok (.aload_n 0, 1) := by decide +kernel
theorem dX0_insert_41 : decode cX0_insert 41 = .ok (.getfield 15, 3) := by decide +kernel
theorem dX0_insert_44 : decode cX0_insert 44 = .ok (.iload_n 3, 1) := by decide +kernel
theorem dX0_insert_45 : decode cX0_insert 45 = .ok (.iconst 1, 1) := by decide +kernel
theorem dX0_insert_46 : decode cX0_insert 46 = .ok (.isub, 1) := by decide +kernel
theorem dX0_insert_47 : decode cX0_insert 47 = .ok (.iaload, 1) := by decide +kernel
theorem dX0_insert_48 : decode cX0_insert 48 = .ok (.iastore, 1) := by decide +kernel
theorem dX0_insert_49 : decode cX0_insert 49 = .ok (.iinc 3 (-1), 3) := by decide +kernel
theorem dX0_insert_52 : decode cX0_insert 52 = .ok (.goto (-47), 3) := by decide +kernel
theorem dX0_insert_55 : decode cX0_insert 55 = .ok (.aload_n 0, 1) := by decide +kernel
theorem dX0_insert_56 : decode cX0_insert 56 = .ok (.getfield 9, 3) := by decide +kernel
theorem dX0_insert_59 : decode cX0_insert 59 = .ok (.iload_n 3, 1) := by decide +kernel
theorem dX0_insert_60 : decode cX0_insert 60 = .ok (.iload_n 1, 1) := by decide +kernel
theorem dX0_insert_61 : decode cX0_insert 61 = .ok (.iastore, 1) := by decide +kernel
theorem dX0_insert_62 : decode cX0_insert 62 = .ok (.aload_n 0, 1) := by decide +kernel
theorem dX0_insert_63 : decode cX0_insert 63 = .ok (.getfield 15, 3) := by decide +kernel
theorem dX0_insert_66 : decode cX0_insert 66 = .ok (.iload_n 3, 1) := by decide +kernel
theorem dX0_insert_67 : decode cX0_insert 67 = .ok (.iload_n 2, 1) := by decide +kernel
theorem dX0_insert_68 : decode cX0_insert 68 = .ok (.iastore, 1) := by decide +kernel
theorem dX0_insert_69 : decode cX0_insert 69 = .ok (.aload_n 0, 1) := by decide +kernel
theorem dX0_insert_70 : decode cX0_insert 70 = .ok (.dup, 1) := by decide +kernel
theorem dX0_insert_71 : decode cX0_insert 71 = .ok (.getfield 18, 3) := by decide +kernel
theorem dX0_insert_74 : decode cX0_insert 74 = .ok (.iconst 1, 1) := by decide +kernel
theorem dX0_insert_75 : decode cX0_insert 75 = .ok (.iadd, 1) := by decide +kernel
theorem dX0_insert_76 : decode cX0_insert 76 = .ok (.putfield 18, 3) := by decide +kernel
theorem dX0_insert_79 : decode cX0_insert 79 = .ok (.return_, 1) := by decide +kernel
theorem dX0_hours_0 : decode cX0_hours 0 = .ok (.aload_n 0, 1) := by decide +kernel
theorem dX0_hours_1 : decode cX0_hours 1 = .ok (.getfield 18, 3) := by decide +kernel
theorem dX0_hours_4 : decode cX0_hours 4 = .ok (.ifCond .ne 5, 3) := by decide +kernel
theorem dX0_hours_7 : decode cX0_hours 7 = .ok (.iconst 0, 1) := by decide +kernel
theorem dX0_hours_8 : decode cX0_hours 8 = .ok (.ireturn, 1) := by decide +kernel
theorem dX0_hours_9 : decode cX0_hours 9 = .ok (.iconst 1, 1) := by decide +kernel
theorem dX0_hours_10 : decode cX0_hours 10 = .ok (.aload_n 0, 1) := by decide +kernel
theorem dX0_hours_11 : decode cX0_hours 11 = .ok (.getfield 9, 3) := by decide +kernel
theorem dX0_hours_14 : decode cX0_hours 14 = .ok (.aload_n 0, 1) := by decide +kernel
theorem dX0_hours_15 : decode cX0_hours 15 = .ok (.getfield 18, 3) := by decide +kernel
theorem dX0_hours_18 : decode cX0_hours 18 = .ok (.iconst 1, 1) := by decide +kernel
theorem dX0_hours_19 : decode cX0_hours 19 = .ok (.isub, 1) := by decide +kernel
theorem dX0_hours_20 : decode cX0_hours 20 = .ok (.iaload, 1) := by decide +kernel
theorem dX0_hours_21 : decode cX0_hours 21 = .ok (.aload_n 0, 1) := by decide +kernel
theorem dX0_hours_22 : decode cX0_hours 22 = .ok (.getfield 9, 3) := by decide +kernel
theorem dX0_hours_25 : decode cX0_hours 25 = .ok (.iconst 0, 1) := by decide +kernel
theorem dX0_hours_26 : decode cX0_hours 26 = .ok (.iaload, 1) := by decide +kernel
theorem dX0_hours_27 : decode cX0_hours 27 = .ok (.isub, 1) := by decide +kernel
theorem dX0_hours_28 : decode cX0_hours 28 = .ok (.bipush 60, 2) := by decide +kernel
theorem dX0_hours_30 : decode cX0_hours 30 = .ok (.iadd, 1) := by decide +kernel
theorem dX0_hours_31 : decode cX0_hours 31 = .ok (.iconst 1, 1) := by decide +kernel
theorem dX0_hours_32 : decode cX0_hours 32 = .ok (.isub, 1) := by decide +kernel
theorem dX0_hours_33 : decode cX0_hours 33 = .ok (.bipush 60, 2) := by decide +kernel
theorem dX0_hours_35 : decode cX0_hours 35 = .ok (.idiv, 1) := by decide +kernel
theorem dX0_hours_36 : decode cX0_hours 36 = .ok (.invokestatic 42, 3) := by decide +kernel
theorem dX0_hours_39 : decode cX0_hours 39 = .ok (.ireturn, 1) := by decide +kernel
theorem dX0_leastBoils_0 : decode cX0_leastBoils 0 = .ok (.iconst 0, 1) := by decide +kernel
theorem dX0_leastBoils_1 : decode cX0_leastBoils 1 = .ok (.istore_n 3, 1) := by decide +kernel
theorem dX0_leastBoils_2 : decode cX0_leastBoils 2 = .ok (.ldc 50, 2) := by decide +kernel
theorem dX0_leastBoils_4 : decode cX0_leastBoils 4 = .ok (.istore 4, 2) := by decide +kernel
theorem dX0_leastBoils_6 : decode cX0_leastBoils 6 = .ok (.iconst 0, 1) := by decide +kernel
theorem dX0_leastBoils_7 : decode cX0_leastBoils 7 = .ok (.istore 5, 2) := by decide +kernel
theorem dX0_leastBoils_9 : decode cX0_leastBoils 9 = .ok (.iload 5, 2) := by decide +kernel
theorem dX0_leastBoils_11 : decode cX0_leastBoils 11 = .ok (.iconst 1, 1) := by decide +kernel
theorem dX0_leastBoils_12 : decode cX0_leastBoils 12 = .ok (.aload_n 0, 1) := by decide +kernel
theorem dX0_leastBoils_13 : decode cX0_leastBoils 13 = .ok (.getfield 18, 3) := by decide +kernel
theorem dX0_leastBoils_16 : decode cX0_leastBoils 16 = .ok (.ishl, 1) := by decide +kernel
theorem dX0_leastBoils_17 : decode cX0_leastBoils 17 = .ok (.if_icmp .ge 35, 3) := by decide +kernel
theorem dX0_leastBoils_20 : decode cX0_leastBoils 20 = .ok (.aload_n 0, 1) := by decide +kernel
theorem dX0_leastBoils_21 : decode cX0_leastBoils 21 = .ok (.iload 5, 2) := by decide +kernel
theorem dX0_leastBoils_23 : decode cX0_leastBoils 23 = .ok (.aload_n 1, 1) := by decide +kernel
theorem dX0_leastBoils_24 : decode cX0_leastBoils 24 = .ok (.getfield 51, 3) := by decide +kernel
theorem dX0_leastBoils_27 : decode cX0_leastBoils 27 = .ok (.invokevirtual 54, 3) := by decide +kernel
theorem dX0_leastBoils_30 : decode cX0_leastBoils 30 = .ok (.istore 6, 2) := by decide +kernel
theorem dX0_leastBoils_32 : decode cX0_leastBoils 32 = .ok (.iload 6, 2) := by decide +kernel
theorem dX0_leastBoils_34 : decode cX0_leastBoils 34 = .ok (.iload 4, 2) := by decide +kernel
theorem dX0_leastBoils_36 : decode cX0_leastBoils 36 = .ok (.if_icmp .ge 10, 3) := by decide +kernel
theorem dX0_leastBoils_39 : decode cX0_leastBoils 39 = .ok (.iload 6, 2) := by decide +kernel
theorem dX0_leastBoils_41 : decode cX0_leastBoils 41 = .ok (.istore 4, 2) := by decide +kernel
theorem dX0_leastBoils_43 : decode cX0_leastBoils 43 = .ok (.iload 5, 2) := by decide +kernel
theorem dX0_leastBoils_45 : decode cX0_leastBoils 45 = .ok (.istore_n 3, 1) := by decide +kernel
theorem dX0_leastBoils_46 : decode cX0_leastBoils 46 = .ok (.iinc 5 1, 3) := by decide +kernel
theorem dX0_leastBoils_49 : decode cX0_leastBoils 49 = .ok (.goto (-40), 3) := by decide +kernel
theorem dX0_leastBoils_52 : decode cX0_leastBoils 52 = .ok (.iload_n 2, 1) := by decide +kernel
theorem dX0_leastBoils_53 : decode cX0_leastBoils 53 = .ok (.ifCond .eq 8, 3) := by decide +kernel
theorem dX0_leastBoils_56 : decode cX0_leastBoils 56 = .ok (.iload 4, 2) := by decide +kernel
theorem dX0_leastBoils_58 : decode cX0_leastBoils 58 = .ok (.goto 4, 3) := by decide +kernel
theorem dX0_leastBoils_61 : decode cX0_leastBoils 61 = .ok (.iload_n 3, 1) := by decide +kernel
theorem dX0_leastBoils_62 : decode cX0_leastBoils 62 = .ok (.ireturn, 1) := by decide +kernel
theorem dX0_boilsCost_0 : decode cX0_boilsCost 0 = .ok (.iconst 0, 1) := by decide +kernel
theorem dX0_boilsCost_1 : decode cX0_boilsCost 1 = .ok (.istore_n 3, 1) := by decide +kernel
theorem dX0_boilsCost_2 : decode cX0_boilsCost 2 = .ok (.iconst 0, 1) := by decide +kernel
theorem dX0_boilsCost_3 : decode cX0_boilsCost 3 = .ok (.istore 4, 2) := by decide +kernel
theorem dX0_boilsCost_5 : decode cX0_boilsCost 5 = .ok (.iconst 0, 1) := by decide +kernel
theorem dX0_boilsCost_6 : decode cX0_boilsCost 6 = .ok (.istore 5, 2) := by decide +kernel
theorem dX0_boilsCost_8 : decode cX0_boilsCost 8 = .ok (.iconst 0, 1) := by decide +kernel
theorem dX0_boilsCost_9 : decode cX0_boilsCost 9 = .ok (.istore 6, 2) := by decide +kernel
theorem dX0_boilsCost_11 : decode cX0_boilsCost 11 = .ok (.iconst 0, 1) := by decide +kernel
theorem dX0_boilsCost_12 : decode cX0_boilsCost 12 = .ok (.istore 7, 2) := by decide +kernel
theorem dX0_boilsCost_14 : decode cX0_boilsCost 14 = .ok (.iload 7, 2) := by decide +kernel
theorem dX0_boilsCost_16 : decode cX0_boilsCost 16 = .ok (.aload_n 0, 1) := by decide +kernel
theorem dX0_boilsCost_17 : decode cX0_boilsCost 17 = .ok (.getfield 18, 3) := by decide +kernel
theorem dX0_boilsCost_20 : decode cX0_boilsCost 20 = .ok (.if_icmp .ge 99, 3) := by decide +kernel
theorem dX0_boilsCost_23 : decode cX0_boilsCost 23 = .ok (.iload 6, 2) := by decide +kernel
theorem dX0_boilsCost_25 : decode cX0_boilsCost 25 = .ok (.aload_n 0, 1) := by decide +kernel
theorem dX0_boilsCost_26 : decode cX0_boilsCost 26 = .ok (.getfield 15, 3) := by decide +kernel
theorem dX0_boilsCost_29 : decode cX0_boilsCost 29 = .ok (.iload 7, 2) := by decide +kernel
theorem dX0_boilsCost_31 : decode cX0_boilsCost 31 = .ok (.iaload, 1) := by decide +kernel
theorem dX0_boilsCost_32 : decode cX0_boilsCost 32 = .ok (.iadd, 1) := by decide +kernel
theorem dX0_boilsCost_33 : decode cX0_boilsCost 33 = .ok (.istore 6, 2) := by decide +kernel
theorem dX0_boilsCost_35 : decode cX0_boilsCost 35 = .ok (.iload 6, 2) := by decide +kernel
theorem dX0_boilsCost_37 : decode cX0_boilsCost 37 = .ok (.aload_n 2, 1) := by decide +kernel
theorem dX0_boilsCost_38 : decode cX0_boilsCost 38 = .ok (.iconst 0, 1) := by decide +kernel
theorem dX0_boilsCost_39 : decode cX0_boilsCost 39 = .ok (.iaload, 1) := by decide +kernel
theorem dX0_boilsCost_40 : decode cX0_boilsCost 40 = .ok (.if_icmp .le 6, 3) := by decide +kernel
theorem dX0_boilsCost_43 : decode cX0_boilsCost 43 = .ok (.ldc 50, 2) := by decide +kernel
theorem dX0_boilsCost_45 : decode cX0_boilsCost 45 = .ok (.ireturn, 1) := by decide +kernel
theorem dX0_boilsCost_46 : decode cX0_boilsCost 46 = .ok (.iload_n 1, 1) := by decide +kernel
theorem dX0_boilsCost_47 : decode cX0_boilsCost 47 = .ok (.iload 7, 2) := by decide +kernel
theorem dX0_boilsCost_49 : decode cX0_boilsCost 49 = .ok (.ishr, 1) := by decide +kernel
theorem dX0_boilsCost_50 : decode cX0_boilsCost 50 = .ok (.iconst 1, 1) := by decide +kernel
theorem dX0_boilsCost_51 : decode cX0_boilsCost 51 = .ok (.iand, 1) := by decide +kernel
theorem dX0_boilsCost_52 : decode cX0_boilsCost 52 = .ok (.iconst 1, 1) := by decide +kernel
theorem dX0_boilsCost_53 : decode cX0_boilsCost 53 = .ok (.if_icmp .ne 60, 3) := by decide +kernel
theorem dX0_boilsCost_56 : decode cX0_boilsCost 56 = .ok (.iload 4, 2) := by decide +kernel
theorem dX0_boilsCost_58 : decode cX0_boilsCost 58 = .ok (.aload_n 0, 1) := by decide +kernel
theorem dX0_boilsCost_59 : decode cX0_boilsCost 59 = .ok (.getfield 9, 3) := by decide +kernel
theorem dX0_boilsCost_62 : decode cX0_boilsCost 62 = .ok (.iload 7, 2) := by decide +kernel
theorem dX0_boilsCost_64 : decode cX0_boilsCost 64 = .ok (.iaload, 1) := by decide +kernel
theorem dX0_boilsCost_65 : decode cX0_boilsCost 65 = .ok (.invokestatic 42, 3) := by decide +kernel
theorem dX0_boilsCost_68 : decode cX0_boilsCost 68 = .ok (.aload_n 2, 1) := by decide +kernel
theorem dX0_boilsCost_69 : decode cX0_boilsCost 69 = .ok (.iconst 1, 1) := by decide +kernel
theorem dX0_boilsCost_70 : decode cX0_boilsCost 70 = .ok (.iaload, 1) := by decide +kernel
theorem dX0_boilsCost_71 : decode cX0_boilsCost 71 = .ok (.iadd, 1) := by decide +kernel
theorem dX0_boilsCost_72 : decode cX0_boilsCost 72 = .ok (.iload 6, 2) := by decide +kernel
theorem dX0_boilsCost_74 : decode cX0_boilsCost 74 = .ok (.bipush 10, 2) := by decide +kernel
theorem dX0_boilsCost_76 : decode cX0_boilsCost 76 = .ok (.aload_n 2, 1) := by decide +kernel
theorem dX0_boilsCost_77 : decode cX0_boilsCost 77 = .ok (.iconst 2, 1) := by decide +kernel
theorem dX0_boilsCost_78 : decode cX0_boilsCost 78 = .ok (.iaload, 1) := by decide +kernel
theorem dX0_boilsCost_79 : decode cX0_boilsCost 79 = .ok (.invokestatic 58, 3) := by decide +kernel
theorem dX0_boilsCost_82 : decode cX0_boilsCost 82 = .ok (.iadd, 1) := by decide +kernel
theorem dX0_boilsCost_83 : decode cX0_boilsCost 83 = .ok (.istore 4, 2) := by decide +kernel
theorem dX0_boilsCost_85 : decode cX0_boilsCost 85 = .ok (.iload_n 3, 1) := by decide +kernel
theorem dX0_boilsCost_86 : decode cX0_boilsCost 86 = .ok (.aload_n 0, 1) := by decide +kernel
theorem dX0_boilsCost_87 : decode cX0_boilsCost 87 = .ok (.iload 4, 2) := by decide +kernel
theorem dX0_boilsCost_89 : decode cX0_boilsCost 89 = .ok (.iload 5, 2) := by decide +kernel
theorem dX0_boilsCost_91 : decode cX0_boilsCost 91 = .ok (.iload 7, 2) := by decide +kernel
theorem dX0_boilsCost_93 : decode cX0_boilsCost 93 = .ok (.invokevirtual 62, 3) := by decide +kernel
theorem dX0_boilsCost_96 : decode cX0_boilsCost 96 = .ok (.aload_n 2, 1) := by decide +kernel
theorem dX0_boilsCost_97 : decode cX0_boilsCost 97 = .ok (.iconst 4, 1) := by decide +kernel
theorem dX0_boilsCost_98 : decode cX0_boilsCost 98 = .ok (.iaload, 1) := by decide +kernel
theorem dX0_boilsCost_99 : decode cX0_boilsCost 99 = .ok (.imul, 1) := by decide +kernel
theorem dX0_boilsCost_100 : decode cX0_boilsCost 100 = .ok (.iconst 3, 1) := by decide +kernel
theorem dX0_boilsCost_101 : decode cX0_boilsCost 101 = .ok (.iadd, 1) := by decide +kernel
theorem dX0_boilsCost_102 : decode cX0_boilsCost 102 = .ok (.iadd, 1) := by decide +kernel
theorem dX0_boilsCost_103 : decode cX0_boilsCost 103 = .ok (.istore_n 3, 1) := by decide +kernel
theorem dX0_boilsCost_104 : decode cX0_boilsCost 104 = .ok (.iload 7, 2) := by decide +kernel
theorem dX0_boilsCost_106 : decode cX0_boilsCost 106 = .ok (.iconst 1, 1) := by decide +kernel
theorem dX0_boilsCost_107 : decode cX0_boilsCost 107 = .ok (.iadd, 1) := by decide +kernel
theorem dX0_boilsCost_108 : decode cX0_boilsCost 108 = .ok (.istore 5, 2) := by decide +kernel
theorem dX0_boilsCost_110 : decode cX0_boilsCost 110 = .ok (.iconst 0, 1) := by decide +kernel
theorem dX0_boilsCost_111 : decode cX0_boilsCost 111 = .ok (.istore 6, 2) := by decide +kernel
theorem dX0_boilsCost_113 : decode cX0_boilsCost 113 = .ok (.iinc 7 1, 3) := by decide +kernel
theorem dX0_boilsCost_116 : decode cX0_boilsCost 116 = .ok (.goto (-102), 3) := by decide +kernel
theorem dX0_boilsCost_119 : decode cX0_boilsCost 119 = .ok (.iload 5, 2) := by decide +kernel
theorem dX0_boilsCost_121 : decode cX0_boilsCost 121 = .ok (.aload_n 0, 1) := by decide +kernel
theorem dX0_boilsCost_122 : decode cX0_boilsCost 122 = .ok (.getfield 18, 3) := by decide +kernel
theorem dX0_boilsCost_125 : decode cX0_boilsCost 125 = .ok (.if_icmp .ne 7, 3) := by decide +kernel
theorem dX0_boilsCost_128 : decode cX0_boilsCost 128 = .ok (.iload_n 3, 1) := by decide +kernel
theorem dX0_boilsCost_129 : decode cX0_boilsCost 129 = .ok (.goto 5, 3) := by decide +kernel
theorem dX0_boilsCost_132 : decode cX0_boilsCost 132 = .ok (.ldc 50, 2) := by decide +kernel
theorem dX0_boilsCost_134 : decode cX0_boilsCost 134 = .ok (.ireturn, 1) := by decide +kernel
theorem dX0_waitedTill_0 : decode cX0_waitedTill 0 = .ok (.iconst 0, 1) := by decide +kernel
theorem dX0_waitedTill_1 : decode cX0_waitedTill 1 = .ok (.istore 4, 2) := by decide +kernel
theorem dX0_waitedTill_3 : decode cX0_waitedTill 3 = .ok (.iload_n 2, 1) := by decide +kernel
theorem dX0_waitedTill_4 : decode cX0_waitedTill 4 = .ok (.istore 5, 2) := by decide +kernel
theorem dX0_waitedTill_6 : decode cX0_waitedTill 6 = .ok (.iload 5, 2) := by decide +kernel
theorem dX0_waitedTill_8 : decode cX0_waitedTill 8 = .ok (.iload_n 3, 1) := by decide +kernel
theorem dX0_waitedTill_9 : decode cX0_waitedTill 9 = .ok (.if_icmp .gt 32, 3) := by decide +kernel
theorem dX0_waitedTill_12 : decode cX0_waitedTill 12 = .ok (.iload 5, 2) := by decide +kernel
theorem dX0_waitedTill_14 : decode cX0_waitedTill 14 = .ok (.aload_n 0, 1) := by decide +kernel
theorem dX0_waitedTill_15 : decode cX0_waitedTill 15 = .ok (.getfield 18, 3) := by decide +kernel
theorem dX0_waitedTill_18 : decode cX0_waitedTill 18 = .ok (.if_icmp .ge 23, 3) := by decide +kernel
theorem dX0_waitedTill_21 : decode cX0_waitedTill 21 = .ok (.iload 4, 2) := by decide +kernel
theorem dX0_waitedTill_23 : decode cX0_waitedTill 23 = .ok (.iload_n 1, 1) := by decide +kernel
theorem dX0_waitedTill_24 : decode cX0_waitedTill 24 = .ok (.aload_n 0, 1) := by decide +kernel
theorem dX0_waitedTill_25 : decode cX0_waitedTill 25 = .ok (.getfield 9, 3) := by decide +kernel
theorem dX0_waitedTill_28 : decode cX0_waitedTill 28 = .ok (.iload 5, 2) := by decide +kernel
theorem dX0_waitedTill_30 : decode cX0_waitedTill 30 = .ok (.iaload, 1) := by decide +kernel
theorem dX0_waitedTill_31 : decode cX0_waitedTill 31 = .ok (.isub, 1) := by decide +kernel
theorem dX0_waitedTill_32 : decode cX0_waitedTill 32 = .ok (.iadd, 1) := by decide +kernel
theorem dX0_waitedTill_33 : decode cX0_waitedTill 33 = .ok (.istore 4, 2) := by decide +kernel
theorem dX0_waitedTill_35 : decode cX0_waitedTill 35 = .ok (.iinc 5 1, 3) := by decide +kernel
theorem dX0_waitedTill_38 : decode cX0_waitedTill 38 = .ok (.goto (-32), 3) := by decide +kernel
theorem dX0_waitedTill_41 : decode cX0_waitedTill 41 = .ok (.iload 4, 2) := by decide +kernel
theorem dX0_waitedTill_43 : decode cX0_waitedTill 43 = .ok (.ireturn, 1) := by decide +kernel
theorem dX0_waitedForSeats_0 : decode cX0_waitedForSeats 0 = .ok (.iconst 0, 1) := by decide +kernel
theorem dX0_waitedForSeats_1 : decode cX0_waitedForSeats 1 = .ok (.istore_n 3, 1) := by decide +kernel
theorem dX0_waitedForSeats_2 : decode cX0_waitedForSeats 2 = .ok (.iconst 0, 1) := by decide +kernel
theorem dX0_waitedForSeats_3 : decode cX0_waitedForSeats 3 = .ok (.istore 4, 2) := by decide +kernel
theorem dX0_waitedForSeats_5 : decode cX0_waitedForSeats 5 = .ok (.iconst 0, 1) := by decide +kernel
theorem dX0_waitedForSeats_6 : decode cX0_waitedForSeats 6 = .ok (.istore 5, 2) := by decide +kernel
theorem dX0_waitedForSeats_8 : decode cX0_waitedForSeats 8 = .ok (.iload 5, 2) := by decide +kernel
theorem dX0_waitedForSeats_10 : decode cX0_waitedForSeats 10 = .ok (.aload_n 0, 1) := by decide +kernel
theorem dX0_waitedForSeats_11 : decode cX0_waitedForSeats 11 = .ok (.getfield 18, 3) := by decide +kernel
theorem dX0_waitedForSeats_14 : decode cX0_waitedForSeats 14 = .ok (.if_icmp .ge 44, 3) := by decide +kernel
theorem dX0_waitedForSeats_17 : decode cX0_waitedForSeats 17 = .ok (.iload 5, 2) := by decide +kernel
theorem dX0_waitedForSeats_19 : decode cX0_waitedForSeats 19 = .ok (.iload 4, 2) := by decide +kernel
theorem dX0_waitedForSeats_21 : decode cX0_waitedForSeats 21 = .ok (.isub, 1) := by decide +kernel
theorem dX0_waitedForSeats_22 : decode cX0_waitedForSeats 22 = .ok (.iconst 1, 1) := by decide +kernel
theorem dX0_waitedForSeats_23 : decode cX0_waitedForSeats 23 = .ok (.iadd, 1) := by decide +kernel
theorem dX0_waitedForSeats_24 : decode cX0_waitedForSeats 24 = .ok (.iload_n 1, 1) := by decide +kernel
theorem dX0_waitedForSeats_25 : decode cX0_waitedForSeats 25 = .ok (.if_icmp .ne 27, 3) := by decide +kernel
theorem dX0_waitedForSeats_28 : decode cX0_waitedForSeats 28 = .ok (.iload_n 3, 1) := by decide +kernel
theorem dX0_waitedForSeats_29 : decode cX0_waitedForSeats 29 = .ok (.aload_n 0, 1) := by decide +kernel
theorem dX0_waitedForSeats_30 : decode cX0_waitedForSeats 30 = .ok (.aload_n 0, 1) := by decide +kernel
theorem dX0_waitedForSeats_31 : decode cX0_waitedForSeats 31 = .ok (.getfield 9, 3) := by decide +kernel
theorem dX0_waitedForSeats_34 : decode cX0_waitedForSeats 34 = .ok (.iload 5, 2) := by decide +kernel
theorem dX0_waitedForSeats_36 : decode cX0_waitedForSeats 36 = .ok (.iaload, 1) := by decide +kernel
theorem dX0_waitedForSeats_37 : decode cX0_waitedForSeats 37 = .ok (.iload 4, 2) := by decide +kernel
theorem dX0_waitedForSeats_39 : decode cX0_waitedForSeats 39 = .ok (.iload 5, 2) := by decide +kernel
theorem dX0_waitedForSeats_41 : decode cX0_waitedForSeats 41 = .ok (.invokevirtual 62, 3) := by decide +kernel
theorem dX0_waitedForSeats_44 : decode cX0_waitedForSeats 44 = .ok (.iadd, 1) := by decide +kernel
theorem dX0_waitedForSeats_45 : decode cX0_waitedForSeats 45 = .ok (.istore_n 3, 1) := by decide +kernel
theorem dX0_waitedForSeats_46 : decode cX0_waitedForSeats 46 = .ok (.iload 5, 2) := by decide +kernel
theorem dX0_waitedForSeats_48 : decode cX0_waitedForSeats 48 = .ok (.iconst 1, 1) := by decide +kernel
theorem dX0_waitedForSeats_49 : decode cX0_waitedForSeats 49 = .ok (.iadd, 1) := by decide +kernel
theorem dX0_waitedForSeats_50 : decode cX0_waitedForSeats 50 = .ok (.istore 4, 2) := by decide +kernel
theorem dX0_waitedForSeats_52 : decode cX0_waitedForSeats 52 = .ok (.iinc 5 1, 3) := by decide +kernel
theorem dX0_waitedForSeats_55 : decode cX0_waitedForSeats 55 = .ok (.goto (-47), 3) := by decide +kernel
theorem dX0_waitedForSeats_58 : decode cX0_waitedForSeats 58 = .ok (.iload 4, 2) := by decide +kernel
theorem dX0_waitedForSeats_60 : decode cX0_waitedForSeats 60 = .ok (.aload_n 0, 1) := by decide +kernel
theorem dX0_waitedForSeats_61 : decode cX0_waitedForSeats 61 = .ok (.getfield 18, 3) := by decide +kernel
theorem dX0_waitedForSeats_64 : decode cX0_waitedForSeats 64 = .ok (.if_icmp .ge 31, 3) := by decide +kernel
theorem dX0_waitedForSeats_67 : decode cX0_waitedForSeats 67 = .ok (.iload_n 3, 1) := by decide +kernel
theorem dX0_waitedForSeats_68 : decode cX0_waitedForSeats 68 = .ok (.aload_n 0, 1) := by decide +kernel
theorem dX0_waitedForSeats_69 : decode cX0_waitedForSeats 69 = .ok (.aload_n 0, 1) := by decide +kernel
theorem dX0_waitedForSeats_70 : decode cX0_waitedForSeats 70 = .ok (.getfield 9, 3) := by decide +kernel
theorem dX0_waitedForSeats_73 : decode cX0_waitedForSeats 73 = .ok (.aload_n 0, 1) := by decide +kernel
theorem dX0_waitedForSeats_74 : decode cX0_waitedForSeats 74 = .ok (.getfield 18, 3) := by decide +kernel
theorem dX0_waitedForSeats_77 : decode cX0_waitedForSeats 77 = .ok (.iconst 1, 1) := by decide +kernel
theorem dX0_waitedForSeats_78 : decode cX0_waitedForSeats 78 = .ok (.isub, 1) := by decide +kernel
theorem dX0_waitedForSeats_79 : decode cX0_waitedForSeats 79 = .ok (.iaload, 1) := by decide +kernel
theorem dX0_waitedForSeats_80 : decode cX0_waitedForSeats 80 = .ok (.iload_n 2, 1) := by decide +kernel
theorem dX0_waitedForSeats_81 : decode cX0_waitedForSeats 81 = .ok (.iadd, 1) := by decide +kernel
theorem dX0_waitedForSeats_82 : decode cX0_waitedForSeats 82 = .ok (.iload 4, 2) := by decide +kernel
theorem dX0_waitedForSeats_84 : decode cX0_waitedForSeats 84 = .ok (.aload_n 0, 1) := by decide +kernel
theorem dX0_waitedForSeats_85 : decode cX0_waitedForSeats 85 = .ok (.getfield 18, 3) := by decide +kernel
theorem dX0_waitedForSeats_88 : decode cX0_waitedForSeats 88 = .ok (.iconst 1, 1) := by decide +kernel
theorem dX0_waitedForSeats_89 : decode cX0_waitedForSeats 89 = .ok (.isub, 1) := by decide +kernel
theorem dX0_waitedForSeats_90 : decode cX0_waitedForSeats 90 = .ok (.invokevirtual 62, 3) := by decide +kernel
theorem dX0_waitedForSeats_93 : decode cX0_waitedForSeats 93 = .ok (.iadd, 1) := by decide +kernel
theorem dX0_waitedForSeats_94 : decode cX0_waitedForSeats 94 = .ok (.istore_n 3, 1) := by decide +kernel
theorem dX0_waitedForSeats_95 : decode cX0_waitedForSeats 95 = .ok (.iload_n 3, 1) := by decide +kernel
theorem dX0_waitedForSeats_96 : decode cX0_waitedForSeats 96 = .ok (.ireturn, 1) := by decide +kernel
theorem dX0_waitedForTimes_0 : decode cX0_waitedForTimes 0 = .ok (.iconst 0, 1) := by decide +kernel
theorem dX0_waitedForTimes_1 : decode cX0_waitedForTimes 1 = .ok (.istore_n 2, 1) := by decide +kernel
theorem dX0_waitedForTimes_2 : decode cX0_waitedForTimes 2 = .ok (.iconst 0, 1) := by decide +kernel
theorem dX0_waitedForTimes_3 : decode cX0_waitedForTimes 3 = .ok (.istore_n 3, 1) := by decide +kernel
theorem dX0_waitedForTimes_4 : decode cX0_waitedForTimes 4 = .ok (.iload_n 3, 1) := by decide +kernel
theorem dX0_waitedForTimes_5 : decode cX0_waitedForTimes 5 = .ok (.aload_n 0, 1) := by decide +kernel
theorem dX0_waitedForTimes_6 : decode cX0_waitedForTimes 6 = .ok (.getfield 18, 3) := by decide +kernel
theorem dX0_waitedForTimes_9 : decode cX0_waitedForTimes 9 = .ok (.if_icmp .ge 27, 3) := by decide +kernel
theorem dX0_waitedForTimes_12 : decode cX0_waitedForTimes 12 = .ok (.iload_n 1, 1) := by decide +kernel
theorem dX0_waitedForTimes_13 : decode cX0_waitedForTimes 13 = .ok (.ifCond .le 23, 3) := by decide +kernel
theorem dX0_waitedForTimes_16 : decode cX0_waitedForTimes 16 = .ok (.iload_n 2, 1) := by decide +kernel
theorem dX0_waitedForTimes_17 : decode cX0_waitedForTimes 17 = .ok (.aload_n 0, 1) := by decide +kernel
theorem dX0_waitedForTimes_18 : decode cX0_waitedForTimes 18 = .ok (.getfield 9, 3) := by decide +kernel
theorem dX0_waitedForTimes_21 : decode cX0_waitedForTimes 21 = .ok (.iload_n 3, 1) := by decide +kernel
theorem dX0_waitedForTimes_22 : decode cX0_waitedForTimes 22 = .ok (.iaload, 1) := by decide +kernel
theorem dX0_waitedForTimes_23 : decode cX0_waitedForTimes 23 = .ok (.ineg, 1) := by decide +kernel
theorem dX0_waitedForTimes_24 : decode cX0_waitedForTimes 24 = .ok (.iload_n 1, 1) := by decide +kernel
theorem dX0_waitedForTimes_25 : decode cX0_waitedForTimes 25 = .ok (.invokestatic 65, 3) := by decide +kernel
theorem dX0_waitedForTimes_28 : decode cX0_waitedForTimes 28 = .ok (.iadd, 1) := by decide +kernel
theorem dX0_waitedForTimes_29 : decode cX0_waitedForTimes 29 = .ok (.istore_n 2, 1) := by decide +kernel
theorem dX0_waitedForTimes_30 : decode cX0_waitedForTimes 30 = .ok (.iinc 3 1, 3) := by decide +kernel
theorem dX0_waitedForTimes_33 : decode cX0_waitedForTimes 33 = .ok (.goto (-29), 3) := by decide +kernel
theorem dX0_waitedForTimes_36 : decode cX0_waitedForTimes 36 = .ok (.iload_n 2, 1) := by decide +kernel
theorem dX0_waitedForTimes_37 : decode cX0_waitedForTimes 37 = .ok (.ireturn, 1) := by decide +kernel
theorem dX0_bestSeats_0 : decode cX0_bestSeats 0 = .ok (.bipush (-9), 2) := by decide +kernel
theorem dX0_bestSeats_2 : decode cX0_bestSeats 2 = .ok (.istore_n 2, 1) := by decide +kernel
theorem dX0_bestSeats_3 : decode cX0_bestSeats 3 = .ok (.iconst 0, 1) := by decide +kernel
theorem dX0_bestSeats_4 : decode cX0_bestSeats 4 = .ok (.istore_n 3, 1) := by decide +kernel
theorem dX0_bestSeats_5 : decode cX0_bestSeats 5 = .ok (.iconst 1, 1) := by decide +kernel
theorem dX0_bestSeats_6 : decode cX0_bestSeats 6 = .ok (.istore 4, 2) := by decide +kernel
theorem dX0_bestSeats_8 : decode cX0_bestSeats 8 = .ok (.iload 4, 2) := by decide +kernel
theorem dX0_bestSeats_10 : decode cX0_bestSeats 10 = .ok (.bipush 8, 2) := by decide +kernel
theorem dX0_bestSeats_12 : decode cX0_bestSeats 12 = .ok (.if_icmp .gt 36, 3) := by decide +kernel
theorem dX0_bestSeats_15 : decode cX0_bestSeats 15 = .ok (.aload_n 0, 1) := by decide +kernel
theorem dX0_bestSeats_16 : decode cX0_bestSeats 16 = .ok (.iload_n 1, 1) := by decide +kernel
theorem dX0_bestSeats_17 : decode cX0_bestSeats 17 = .ok (.invokevirtual 68, 3) := by decide +kernel
theorem dX0_bestSeats_20 : decode cX0_bestSeats 20 = .ok (.aload_n 0, 1) := by decide +kernel
theorem dX0_bestSeats_21 : decode cX0_bestSeats 21 = .ok (.iload 4, 2) := by decide +kernel
theorem dX0_bestSeats_23 : decode cX0_bestSeats 23 = .ok (.iload_n 1, 1) := by decide +kernel
theorem dX0_bestSeats_24 : decode cX0_bestSeats 24 = .ok (.invokevirtual 72, 3) := by decide +kernel
theorem dX0_bestSeats_27 : decode cX0_bestSeats 27 = .ok (.isub, 1) := by decide +kernel
theorem dX0_bestSeats_28 : decode cX0_bestSeats 28 = .ok (.istore 5, 2) := by decide +kernel
theorem dX0_bestSeats_30 : decode cX0_bestSeats 30 = .ok (.iload 5, 2) := by decide +kernel
theorem dX0_bestSeats_32 : decode cX0_bestSeats 32 = .ok (.iload_n 3, 1) := by decide +kernel
theorem dX0_bestSeats_33 : decode cX0_bestSeats 33 = .ok (.if_icmp .le 9, 3) := by decide +kernel
theorem dX0_bestSeats_36 : decode cX0_bestSeats 36 = .ok (.iload 5, 2) := by decide +kernel
theorem dX0_bestSeats_38 : decode cX0_bestSeats 38 = .ok (.istore_n 3, 1) := by decide +kernel
theorem dX0_bestSeats_39 : decode cX0_bestSeats 39 = .ok (.iload 4, 2) := by decide +kernel
theorem dX0_bestSeats_41 : decode cX0_bestSeats 41 = .ok (.istore_n 2, 1) := by decide +kernel
theorem dX0_bestSeats_42 : decode cX0_bestSeats 42 = .ok (.iinc 4 1, 3) := by decide +kernel
theorem dX0_bestSeats_45 : decode cX0_bestSeats 45 = .ok (.goto (-37), 3) := by decide +kernel
theorem dX0_bestSeats_48 : decode cX0_bestSeats 48 = .ok (.iload_n 2, 1) := by decide +kernel
theorem dX0_bestSeats_49 : decode cX0_bestSeats 49 = .ok (.ireturn, 1) := by decide +kernel
theorem dX1_init_0 : decode cX1_init 0 = .ok (.aload_n 0, 1) := by decide +kernel
theorem dX1_init_1 : decode cX1_init 1 = .ok (.invokespecial 3, 3) := by decide +kernel
theorem dX1_init_4 : decode cX1_init 4 = .ok (.return_, 1) := by decide +kernel
theorem dX1_copy_0 : decode cX1_copy 0 = .ok (.aload_n 0, 1) := by decide +kernel
theorem dX1_copy_1 : decode cX1_copy 1 = .ok (.aload_n 1, 1) := by decide +kernel
theorem dX1_copy_2 : decode cX1_copy 2 = .ok (.getfield 9, 3) := by decide +kernel
theorem dX1_copy_5 : decode cX1_copy 5 = .ok (.aload_n 1, 1) := by decide +kernel
theorem dX1_copy_6 : decode cX1_copy 6 = .ok (.getfield 15, 3) := by decide +kernel
theorem dX1_copy_9 : decode cX1_copy 9 = .ok (.invokevirtual 18, 3) := by decide +kernel
theorem dX1_copy_12 : decode cX1_copy 12 = .ok (.aload_n 0, 1) := by decide +kernel
theorem dX1_copy_13 : decode cX1_copy 13 = .ok (.aload_n 1, 1) := by decide +kernel
theorem dX1_copy_14 : decode cX1_copy 14 = .ok (.getfield 22, 3) := by decide +kernel
theorem dX1_copy_17 : decode cX1_copy 17 = .ok (.putfield 22, 3) := by decide +kernel
theorem dX1_copy_20 : decode cX1_copy 20 = .ok (.aload_n 0, 1) := by decide +kernel
theorem dX1_copy_21 : decode cX1_copy 21 = .ok (.aload_n 1, 1) := by decide +kernel
theorem dX1_copy_22 : decode cX1_copy 22 = .ok (.getfield 25, 3) := by decide +kernel
theorem dX1_copy_25 : decode cX1_copy 25 = .ok (.putfield 25, 3) := by decide +kernel
theorem dX1_copy_28 : decode cX1_copy 28 = .ok (.aload_n 0, 1) := by decide +kernel
theorem dX1_copy_29 : decode cX1_copy 29 = .ok (.aload_n 1, 1) := by decide +kernel
theorem dX1_copy_30 : decode cX1_copy 30 = .ok (.getfield 28, 3) := by decide +kernel
theorem dX1_copy_33 : decode cX1_copy 33 = .ok (.putfield 28, 3) := by decide +kernel
theorem dX1_copy_36 : decode cX1_copy 36 = .ok (.aload_n 0, 1) := by decide +kernel
theorem dX1_copy_37 : decode cX1_copy 37 = .ok (.aload_n 1, 1) := by decide +kernel
theorem dX1_copy_38 : decode cX1_copy 38 = .ok (.getfield 31, 3) := by decide +kernel
theorem dX1_copy_41 : decode cX1_copy 41 = .ok (.putfield 31, 3) := by decide +kernel
theorem dX1_copy_44 : decode cX1_copy 44 = .ok (.aload_n 0, 1) := by decide +kernel
theorem dX1_copy_45 : decode cX1_copy 45 = .ok (.aload_n 1, 1) := by decide +kernel
theorem dX1_copy_46 : decode cX1_copy 46 = .ok (.getfield 34, 3) := by decide +kernel
theorem dX1_copy_49 : decode cX1_copy 49 = .ok (.putfield 34, 3) := by decide +kernel
theorem dX1_copy_52 : decode cX1_copy 52 = .ok (.return_, 1) := by decide +kernel
theorem dX1_become_0 : decode cX1_become 0 = .ok (.aload_n 0, 1) := by decide +kernel
theorem dX1_become_1 : decode cX1_become 1 = .ok (.iload_n 1, 1) := by decide +kernel
theorem dX1_become_2 : decode cX1_become 2 = .ok (.putfield 9, 3) := by decide +kernel
theorem dX1_become_5 : decode cX1_become 5 = .ok (.aload_n 0, 1) := by decide +kernel
theorem dX1_become_6 : decode cX1_become 6 = .ok (.iload_n 2, 1) := by decide +kernel
theorem dX1_become_7 : decode cX1_become 7 = .ok (.putfield 15, 3) := by decide +kernel
theorem dX1_become_10 : decode cX1_become 10 = .ok (.return_, 1) := by decide +kernel
theorem dX1_waited_0 : decode cX1_waited 0 = .ok (.aload_n 0, 1) := by decide +kernel
theorem dX1_waited_1 : decode cX1_waited 1 = .ok (.getfield 31, 3) := by decide +kernel
theorem dX1_waited_4 : decode cX1_waited 4 = .ok (.iconst 2, 1) := by decide +kernel
theorem dX1_waited_5 : decode cX1_waited 5 = .ok (.if_icmp .ne 13, 3) := by decide +kernel
theorem dX1_waited_8 : decode cX1_waited 8 = .ok (.aload_n 0, 1) := by decide +kernel
theorem dX1_waited_9 : decode cX1_waited 9 = .ok (.getfield 34, 3) := by decide +kernel
theorem dX1_waited_12 : decode cX1_waited 12 = .ok (.aload_n 0, 1) := by decide +kernel
theorem dX1_waited_13 : decode cX1_waited 13 = .ok (.getfield 22, 3) := by decide +kernel
theorem dX1_waited_16 : decode cX1_waited 16 = .ok (.isub, 1) := by decide +kernel
theorem dX1_waited_17 : decode cX1_waited 17 = .ok (.ireturn, 1) := by decide +kernel
theorem dX1_waited_18 : decode cX1_waited 18 = .ok (.aload_n 0, 1) := by decide +kernel
theorem dX1_waited_19 : decode cX1_waited 19 = .ok (.getfield 31, 3) := by decide +kernel
theorem dX1_waited_22 : decode cX1_waited 22 = .ok (.iconst 3, 1) := by decide +kernel
theorem dX1_waited_23 : decode cX1_waited 23 = .ok (.if_icmp .ne 10, 3) := by decide +kernel
theorem dX1_waited_26 : decode cX1_waited 26 = .ok (.aload_n 0, 1) := by decide +kernel
theorem dX1_waited_27 : decode cX1_waited 27 = .ok (.getfield 28, 3) := by decide +kernel
theorem dX1_waited_30 : decode cX1_waited 30 = .ok (.goto 4, 3) := by decide +kernel
theorem dX1_waited_33 : decode cX1_waited 33 = .ok (.iconst 0, 1) := by decide +kernel
theorem dX1_waited_34 : decode cX1_waited 34 = .ok (.ireturn, 1) := by decide +kernel
theorem dX1_tell_0 : decode cX1_tell 0 = .ok (.iload_n 1, 1) := by decide +kernel
theorem dX1_tell_1 : decode cX1_tell 1 = .ok (.tableswitch 69 0 5 #[39, 44, 49, 54, 59, 64], 39) := by decide +kernel
theorem dX1_tell_40 : decode cX1_tell 40 = .ok (.aload_n 0, 1) := by decide +kernel
theorem dX1_tell_41 : decode cX1_tell 41 = .ok (.getfield 9, 3) := by decide +kernel
theorem dX1_tell_44 : decode cX1_tell 44 = .ok (.ireturn, 1) := by decide +kernel
theorem dX1_tell_45 : decode cX1_tell 45 = .ok (.aload_n 0, 1) := by decide +kernel
theorem dX1_tell_46 : decode cX1_tell 46 = .ok (.getfield 15, 3) := by decide +kernel
theorem dX1_tell_49 : decode cX1_tell 49 = .ok (.ireturn, 1) := by decide +kernel
theorem dX1_tell_50 : decode cX1_tell 50 = .ok (.aload_n 0, 1) := by decide +kernel
theorem dX1_tell_51 : decode cX1_tell 51 = .ok (.getfield 22, 3) := by decide +kernel
theorem dX1_tell_54 : decode cX1_tell 54 = .ok (.ireturn, 1) := by decide +kernel
theorem dX1_tell_55 : decode cX1_tell 55 = .ok (.aload_n 0, 1) := by decide +kernel
theorem dX1_tell_56 : decode cX1_tell 56 = .ok (.getfield 25, 3) := by decide +kernel
theorem dX1_tell_59 : decode cX1_tell 59 = .ok (.ireturn, 1) := by decide +kernel
theorem dX1_tell_60 : decode cX1_tell 60 = .ok (.aload_n 0, 1) := by decide +kernel
theorem dX1_tell_61 : decode cX1_tell 61 = .ok (.getfield 28, 3) := by decide +kernel
theorem dX1_tell_64 : decode cX1_tell 64 = .ok (.ireturn, 1) := by decide +kernel
theorem dX1_tell_65 : decode cX1_tell 65 = .ok (.aload_n 0, 1) := by decide +kernel
theorem dX1_tell_66 : decode cX1_tell 66 = .ok (.getfield 31, 3) := by decide +kernel
theorem dX1_tell_69 : decode cX1_tell 69 = .ok (.ireturn, 1) := by decide +kernel
theorem dX1_tell_70 : decode cX1_tell 70 = .ok (.aload_n 0, 1) := by decide +kernel
theorem dX1_tell_71 : decode cX1_tell 71 = .ok (.invokevirtual 37, 3) := by decide +kernel
theorem dX1_tell_74 : decode cX1_tell 74 = .ok (.ireturn, 1) := by decide +kernel
theorem dX2_init_0 : decode cX2_init 0 = .ok (.aload_n 0, 1) := by decide +kernel
theorem dX2_init_1 : decode cX2_init 1 = .ok (.invokespecial 3, 3) := by decide +kernel
theorem dX2_init_4 : decode cX2_init 4 = .ok (.aload_n 0, 1) := by decide +kernel
theorem dX2_init_5 : decode cX2_init 5 = .ok (.getstatic 9, 3) := by decide +kernel
theorem dX2_init_8 : decode cX2_init 8 = .ok (.invokevirtual 13, 3) := by decide +kernel
theorem dX2_init_11 : decode cX2_init 11 = .ok (.checkcast 14, 3) := by decide +kernel
theorem dX2_init_14 : decode cX2_init 14 = .ok (.putfield 18, 3) := by decide +kernel
theorem dX2_init_17 : decode cX2_init 17 = .ok (.aload_n 0, 1) := by decide +kernel
theorem dX2_init_18 : decode cX2_init 18 = .ok (.bipush 8, 2) := by decide +kernel
theorem dX2_init_20 : decode cX2_init 20 = .ok (.anewarray 23, 3) := by decide +kernel
theorem dX2_init_23 : decode cX2_init 23 = .ok (.putfield 25, 3) := by decide +kernel
theorem dX2_init_26 : decode cX2_init 26 = .ok (.iconst 0, 1) := by decide +kernel
theorem dX2_init_27 : decode cX2_init 27 = .ok (.istore_n 1, 1) := by decide +kernel
theorem dX2_init_28 : decode cX2_init 28 = .ok (.iload_n 1, 1) := by decide +kernel
theorem dX2_init_29 : decode cX2_init 29 = .ok (.aload_n 0, 1) := by decide +kernel
theorem dX2_init_30 : decode cX2_init 30 = .ok (.getfield 25, 3) := by decide +kernel
theorem dX2_init_33 : decode cX2_init 33 = .ok (.arraylength, 1) := by decide +kernel
theorem dX2_init_34 : decode cX2_init 34 = .ok (.if_icmp .ge 22, 3) := by decide +kernel
theorem dX2_init_37 : decode cX2_init 37 = .ok (.aload_n 0, 1) := by decide +kernel
theorem dX2_init_38 : decode cX2_init 38 = .ok (.getfield 25, 3) := by decide +kernel
theorem dX2_init_41 : decode cX2_init 41 = .ok (.iload_n 1, 1) := by decide +kernel
theorem dX2_init_42 : decode cX2_init 42 = .ok (.new 23, 3) := by decide +kernel
theorem dX2_init_45 : decode cX2_init 45 = .ok (.dup, 1) := by decide +kernel
theorem dX2_init_46 : decode cX2_init 46 = .ok (.invokespecial 29, 3) := by decide +kernel
theorem dX2_init_49 : decode cX2_init 49 = .ok (.aastore, 1) := by decide +kernel
theorem dX2_init_50 : decode cX2_init 50 = .ok (.iinc 1 1, 3) := by decide +kernel
theorem dX2_init_53 : decode cX2_init 53 = .ok (.goto (-25), 3) := by decide +kernel
theorem dX2_init_56 : decode cX2_init 56 = .ok (.aload_n 0, 1) := by decide +kernel
theorem dX2_init_57 : decode cX2_init 57 = .ok (.iconst 2, 1) := by decide +kernel
theorem dX2_init_58 : decode cX2_init 58 = .ok (.anewarray 30, 3) := by decide +kernel
theorem dX2_init_61 : decode cX2_init 61 = .ok (.putfield 32, 3) := by decide +kernel
theorem dX2_init_64 : decode cX2_init 64 = .ok (.iconst 0, 1) := by decide +kernel
theorem dX2_init_65 : decode cX2_init 65 = .ok (.istore_n 1, 1) := by decide +kernel
theorem dX2_init_66 : decode cX2_init 66 = .ok (.iload_n 1, 1) := by decide +kernel
theorem dX2_init_67 : decode cX2_init 67 = .ok (.aload_n 0, 1) := by decide +kernel
theorem dX2_init_68 : decode cX2_init 68 = .ok (.getfield 32, 3) := by decide +kernel
theorem dX2_init_71 : decode cX2_init 71 = .ok (.arraylength, 1) := by decide +kernel
theorem dX2_init_72 : decode cX2_init 72 = .ok (.if_icmp .ge 22, 3) := by decide +kernel
theorem dX2_init_75 : decode cX2_init 75 = .ok (.aload_n 0, 1) := by decide +kernel
theorem dX2_init_76 : decode cX2_init 76 = .ok (.getfield 32, 3) := by decide +kernel
theorem dX2_init_79 : decode cX2_init 79 = .ok (.iload_n 1, 1) := by decide +kernel
theorem dX2_init_80 : decode cX2_init 80 = .ok (.new 30, 3) := by decide +kernel
theorem dX2_init_83 : decode cX2_init 83 = .ok (.dup, 1) := by decide +kernel
theorem dX2_init_84 : decode cX2_init 84 = .ok (.invokespecial 36, 3) := by decide +kernel
theorem dX2_init_87 : decode cX2_init 87 = .ok (.aastore, 1) := by decide +kernel
theorem dX2_init_88 : decode cX2_init 88 = .ok (.iinc 1 1, 3) := by decide +kernel
theorem dX2_init_91 : decode cX2_init 91 = .ok (.goto (-25), 3) := by decide +kernel
theorem dX2_init_94 : decode cX2_init 94 = .ok (.aload_n 0, 1) := by decide +kernel
theorem dX2_init_95 : decode cX2_init 95 = .ok (.bipush 8, 2) := by decide +kernel
theorem dX2_init_97 : decode cX2_init 97 = .ok (.newarray .int, 2) := by decide +kernel
theorem dX2_init_99 : decode cX2_init 99 = .ok (.putfield 37, 3) := by decide +kernel
theorem dX2_init_102 : decode cX2_init 102 = .ok (.return_, 1) := by decide +kernel
theorem dX2_copy_0 : decode cX2_copy 0 = .ok (.aload_n 1, 1) := by decide +kernel
theorem dX2_copy_1 : decode cX2_copy 1 = .ok (.getfield 18, 3) := by decide +kernel
theorem dX2_copy_4 : decode cX2_copy 4 = .ok (.iconst 0, 1) := by decide +kernel
theorem dX2_copy_5 : decode cX2_copy 5 = .ok (.aload_n 0, 1) := by decide +kernel
theorem dX2_copy_6 : decode cX2_copy 6 = .ok (.getfield 18, 3) := by decide +kernel
theorem dX2_copy_9 : decode cX2_copy 9 = .ok (.iconst 0, 1) := by decide +kernel
theorem dX2_copy_10 : decode cX2_copy 10 = .ok (.aload_n 0, 1) := by decide +kernel
theorem dX2_copy_11 : decode cX2_copy 11 = .ok (.getfield 18, 3) := by decide +kernel
theorem dX2_copy_14 : decode cX2_copy 14 = .ok (.arraylength, 1) := by decide +kernel
theorem dX2_copy_15 : decode cX2_copy 15 = .ok (.invokestatic 40, 3) := by decide +kernel
theorem dX2_copy_18 : decode cX2_copy 18 = .ok (.aload_n 1, 1) := by decide +kernel
theorem dX2_copy_19 : decode cX2_copy 19 = .ok (.getfield 37, 3) := by decide +kernel
theorem dX2_copy_22 : decode cX2_copy 22 = .ok (.iconst 0, 1) := by decide +kernel
theorem dX2_copy_23 : decode cX2_copy 23 = .ok (.aload_n 0, 1) := by decide +kernel
theorem dX2_copy_24 : decode cX2_copy 24 = .ok (.getfield 37, 3) := by decide +kernel
theorem dX2_copy_27 : decode cX2_copy 27 = .ok (.iconst 0, 1) := by decide +kernel
theorem dX2_copy_28 : decode cX2_copy 28 = .ok (.aload_n 0, 1) := by decide +kernel
theorem dX2_copy_29 : decode cX2_copy 29 = .ok (.getfield 37, 3) := by decide +kernel
theorem dX2_copy_32 : decode cX2_copy 32 = .ok (.arraylength, 1) := by decide +kernel
theorem dX2_copy_33 : decode cX2_copy 33 = .ok (.invokestatic 40, 3) := by decide +kernel
theorem dX2_copy_36 : decode cX2_copy 36 = .ok (.aload_n 0, 1) := by decide +kernel
theorem dX2_copy_37 : decode cX2_copy 37 = .ok (.aload_n 1, 1) := by decide +kernel
theorem dX2_copy_38 : decode cX2_copy 38 = .ok (.getfield 46, 3) := by decide +kernel
theorem dX2_copy_41 : decode cX2_copy 41 = .ok (.putfield 46, 3) := by decide +kernel
theorem dX2_copy_44 : decode cX2_copy 44 = .ok (.aload_n 0, 1) := by decide +kernel
theorem dX2_copy_45 : decode cX2_copy 45 = .ok (.aload_n 1, 1) := by decide +kernel
theorem dX2_copy_46 : decode cX2_copy 46 = .ok (.getfield 50, 3) := by decide +kernel
theorem dX2_copy_49 : decode cX2_copy 49 = .ok (.putfield 50, 3) := by decide +kernel
theorem dX2_copy_52 : decode cX2_copy 52 = .ok (.aload_n 0, 1) := by decide +kernel
theorem dX2_copy_53 : decode cX2_copy 53 = .ok (.aload_n 1, 1) := by decide +kernel
theorem dX2_copy_54 : decode cX2_copy 54 = .ok (.getfield 53, 3) := by decide +kernel
theorem dX2_copy_57 : decode cX2_copy 57 = .ok (.putfield 53, 3) := by decide +kernel
theorem dX2_copy_60 : decode cX2_copy 60 = .ok (.iconst 0, 1) := by decide +kernel
theorem dX2_copy_61 : decode cX2_copy 61 = .ok (.istore_n 2, 1) := by decide +kernel
theorem dX2_copy_62 : decode cX2_copy 62 = .ok (.iload_n 2, 1) := by decide +kernel
theorem dX2_copy_63 : decode cX2_copy 63 = .ok (.aload_n 0, 1) := by decide +kernel
theorem dX2_copy_64 : decode cX2_copy 64 = .ok (.getfield 46, 3) := by decide +kernel
theorem dX2_copy_67 : decode cX2_copy 67 = .ok (.if_icmp .ge 24, 3) := by decide +kernel
theorem dX2_copy_70 : decode cX2_copy 70 = .ok (.aload_n 0, 1) := by decide +kernel
theorem dX2_copy_71 : decode cX2_copy 71 = .ok (.getfield 25, 3) := by decide +kernel
theorem dX2_copy_74 : decode cX2_copy 74 = .ok (.iload_n 2, 1) := by decide +kernel
theorem dX2_copy_75 : decode cX2_copy 75 = .ok (.aaload, 1) := by decide +kernel
theorem dX2_copy_76 : decode cX2_copy 76 = .ok (.aload_n 1, 1) := by decide +kernel
theorem dX2_copy_77 : decode cX2_copy 77 = .ok (.getfield 25, 3) := by decide +kernel
theorem dX2_copy_80 : decode cX2_copy 80 = .ok (.iload_n 2, 1) := by decide +kernel
theorem dX2_copy_81 : decode cX2_copy 81 = .ok (.aaload, 1) := by decide +kernel
theorem dX2_copy_82 : decode cX2_copy 82 = .ok (.invokevirtual 56, 3) := by decide +kernel
theorem dX2_copy_85 : decode cX2_copy 85 = .ok (.iinc 2 1, 3) := by decide +kernel
theorem dX2_copy_88 : decode cX2_copy 88 = .ok (.goto (-26), 3) := by decide +kernel
theorem dX2_copy_91 : decode cX2_copy 91 = .ok (.iconst 0, 1) := by decide +kernel
theorem dX2_copy_92 : decode cX2_copy 92 = .ok (.istore_n 2, 1) := by decide +kernel
theorem dX2_copy_93 : decode cX2_copy 93 = .ok (.iload_n 2, 1) := by decide +kernel
theorem dX2_copy_94 : decode cX2_copy 94 = .ok (.aload_n 0, 1) := by decide +kernel
theorem dX2_copy_95 : decode cX2_copy 95 = .ok (.getfield 32, 3) := by decide +kernel
theorem dX2_copy_98 : decode cX2_copy 98 = .ok (.arraylength, 1) := by decide +kernel
theorem dX2_copy_99 : decode cX2_copy 99 = .ok (.if_icmp .ge 24, 3) := by decide +kernel
theorem dX2_copy_102 : decode cX2_copy 102 = .ok (.aload_n 0, 1) := by decide +kernel
theorem dX2_copy_103 : decode cX2_copy 103 = .ok (.getfield 32, 3) := by decide +kernel
theorem dX2_copy_106 : decode cX2_copy 106 = .ok (.iload_n 2, 1) := by decide +kernel
theorem dX2_copy_107 : decode cX2_copy 107 = .ok (.aaload, 1) := by decide +kernel
theorem dX2_copy_108 : decode cX2_copy 108 = .ok (.aload_n 1, 1) := by decide +kernel
theorem dX2_copy_109 : decode cX2_copy 109 = .ok (.getfield 32, 3) := by decide +kernel
theorem dX2_copy_112 : decode cX2_copy 112 = .ok (.iload_n 2, 1) := by decide +kernel
theorem dX2_copy_113 : decode cX2_copy 113 = .ok (.aaload, 1) := by decide +kernel
theorem dX2_copy_114 : decode cX2_copy 114 = .ok (.invokevirtual 60, 3) := by decide +kernel
theorem dX2_copy_117 : decode cX2_copy 117 = .ok (.iinc 2 1, 3) := by decide +kernel
theorem dX2_copy_120 : decode cX2_copy 120 = .ok (.goto (-27), 3) := by decide +kernel
theorem dX2_copy_123 : decode cX2_copy 123 = .ok (.return_, 1) := by decide +kernel
theorem dX2_begin_0 : decode cX2_begin 0 = .ok (.aload_n 0, 1) := by decide +kernel
theorem dX2_begin_1 : decode cX2_begin 1 = .ok (.iconst 0, 1) := by decide +kernel
theorem dX2_begin_2 : decode cX2_begin 2 = .ok (.putfield 53, 3) := by decide +kernel
theorem dX2_begin_5 : decode cX2_begin 5 = .ok (.aload_n 0, 1) := by decide +kernel
theorem dX2_begin_6 : decode cX2_begin 6 = .ok (.iconst 0, 1) := by decide +kernel
theorem dX2_begin_7 : decode cX2_begin 7 = .ok (.putfield 50, 3) := by decide +kernel
theorem dX2_begin_10 : decode cX2_begin 10 = .ok (.iconst 0, 1) := by decide +kernel
theorem dX2_begin_11 : decode cX2_begin 11 = .ok (.istore_n 1, 1) := by decide +kernel
theorem dX2_begin_12 : decode cX2_begin 12 = .ok (.iload_n 1, 1) := by decide +kernel
theorem dX2_begin_13 : decode cX2_begin 13 = .ok (.aload_n 0, 1) := by decide +kernel
theorem dX2_begin_14 : decode cX2_begin 14 = .ok (.getfield 46, 3) := by decide +kernel
theorem dX2_begin_17 : decode cX2_begin 17 = .ok (.if_icmp .ge 19, 3) := by decide +kernel
theorem dX2_begin_20 : decode cX2_begin 20 = .ok (.aload_n 0, 1) := by decide +kernel
theorem dX2_begin_21 : decode cX2_begin 21 = .ok (.getfield 25, 3) := by decide +kernel
theorem dX2_begin_24 : decode cX2_begin 24 = .ok (.iload_n 1, 1) := by decide +kernel
theorem dX2_begin_25 : decode cX2_begin 25 = .ok (.aaload, 1) := by decide +kernel
theorem dX2_begin_26 : decode cX2_begin 26 = .ok (.iconst 0, 1) := by decide +kernel
theorem dX2_begin_27 : decode cX2_begin 27 = .ok (.putfield 63, 3) := by decide +kernel
theorem dX2_begin_30 : decode cX2_begin 30 = .ok (.iinc 1 1, 3) := by decide +kernel
theorem dX2_begin_33 : decode cX2_begin 33 = .ok (.goto (-21), 3) := by decide +kernel
theorem dX2_begin_36 : decode cX2_begin 36 = .ok (.iconst 0, 1) := by decide +kernel
theorem dX2_begin_37 : decode cX2_begin 37 = .ok (.istore_n 1, 1) := by decide +kernel
theorem dX2_begin_38 : decode cX2_begin 38 = .ok (.iload_n 1, 1) := by decide +kernel
theorem dX2_begin_39 : decode cX2_begin 39 = .ok (.aload_n 0, 1) := by decide +kernel
theorem dX2_begin_40 : decode cX2_begin 40 = .ok (.getfield 32, 3) := by decide +kernel
theorem dX2_begin_43 : decode cX2_begin 43 = .ok (.arraylength, 1) := by decide +kernel
theorem dX2_begin_44 : decode cX2_begin 44 = .ok (.if_icmp .ge 18, 3) := by decide +kernel
theorem dX2_begin_47 : decode cX2_begin 47 = .ok (.aload_n 0, 1) := by decide +kernel
theorem dX2_begin_48 : decode cX2_begin 48 = .ok (.getfield 32, 3) := by decide +kernel
theorem dX2_begin_51 : decode cX2_begin 51 = .ok (.iload_n 1, 1) := by decide +kernel
theorem dX2_begin_52 : decode cX2_begin 52 = .ok (.aaload, 1) := by decide +kernel
theorem dX2_begin_53 : decode cX2_begin 53 = .ok (.invokevirtual 66, 3) := by decide +kernel
theorem dX2_begin_56 : decode cX2_begin 56 = .ok (.iinc 1 1, 3) := by decide +kernel
theorem dX2_begin_59 : decode cX2_begin 59 = .ok (.goto (-21), 3) := by decide +kernel
theorem dX2_begin_62 : decode cX2_begin 62 = .ok (.return_, 1) := by decide +kernel
theorem dX2_hasComer_0 : decode cX2_hasComer 0 = .ok (.iload_n 1, 1) := by decide +kernel
theorem dX2_hasComer_1 : decode cX2_hasComer 1 = .ok (.ifCond .lt 15, 3) := by decide +kernel
theorem dX2_hasComer_4 : decode cX2_hasComer 4 = .ok (.iload_n 1, 1) := by decide +kernel
theorem dX2_hasComer_5 : decode cX2_hasComer 5 = .ok (.aload_n 0, 1) := by decide +kernel
theorem dX2_hasComer_6 : decode cX2_hasComer 6 = .ok (.getfield 46, 3) := by decide +kernel
theorem dX2_hasComer_9 : decode cX2_hasComer 9 = .ok (.if_icmp .ge 7, 3) := by decide +kernel
theorem dX2_hasComer_12 : decode cX2_hasComer 12 = .ok (.iconst 1, 1) := by decide +kernel
theorem dX2_hasComer_13 : decode cX2_hasComer 13 = .ok (.goto 4, 3) := by decide +kernel
theorem dX2_hasComer_16 : decode cX2_hasComer 16 = .ok (.iconst 0, 1) := by decide +kernel
theorem dX2_hasComer_17 : decode cX2_hasComer 17 = .ok (.ireturn, 1) := by decide +kernel
theorem dX2_kettlesInUse_0 : decode cX2_kettlesInUse 0 = .ok (.aload_n 0, 1) := by decide +kernel
theorem dX2_kettlesInUse_1 : decode cX2_kettlesInUse 1 = .ok (.getfield 18, 3) := by decide +kernel
theorem dX2_kettlesInUse_4 : decode cX2_kettlesInUse 4 = .ok (.bipush 7, 2) := by decide +kernel
theorem dX2_kettlesInUse_6 : decode cX2_kettlesInUse 6 = .ok (.iaload, 1) := by decide +kernel
theorem dX2_kettlesInUse_7 : decode cX2_kettlesInUse 7 = .ok (.ireturn, 1) := by decide +kernel
theorem dX2_settingRefusal_0 : decode cX2_settingRefusal 0 = .ok (.iload_n 1, 1) := by decide +kernel
theorem dX2_settingRefusal_1 : decode cX2_settingRefusal 1 = .ok (.ifCond .lt 12, 3) := by decide +kernel
theorem dX2_settingRefusal_4 : decode cX2_settingRefusal 4 = .ok (.iload_n 1, 1) := by decide +kernel
theorem dX2_settingRefusal_5 : decode cX2_settingRefusal 5 = .ok (.aload_n 0, 1) := by decide +kernel
theorem dX2_settingRefusal_6 : decode cX2_settingRefusal 6 = .ok (.getfield 18, 3) := by decide +kernel
theorem dX2_settingRefusal_9 : decode cX2_settingRefusal 9 = .ok (.arraylength, 1) := by decide +kernel
theorem dX2_settingRefusal_10 : decode cX2_settingRefusal 10 = .ok (.if_icmp .lt 5, 3) := by decide +kernel
theorem dX2_settingRefusal_13 : decode cX2_settingRefusal 13 = .ok (.iconst (-1), 1) := by decide +kernel
theorem dX2_settingRefusal_14 : decode cX2_settingRefusal 14 = .ok (.ireturn, 1) := by decide +kernel
theorem dX2_settingRefusal_15 : decode cX2_settingRefusal 15 = .ok (.iload_n 2, 1) := by decide +kernel
theorem dX2_settingRefusal_16 : decode cX2_settingRefusal 16 = .ok (.getstatic 69, 3) := by decide +kernel
theorem dX2_settingRefusal_19 : decode cX2_settingRefusal 19 = .ok (.iload_n 1, 1) := by decide +kernel
theorem dX2_settingRefusal_20 : decode cX2_settingRefusal 20 = .ok (.iaload, 1) := by decide +kernel
theorem dX2_settingRefusal_21 : decode cX2_settingRefusal 21 = .ok (.if_icmp .ge 6, 3) := by decide +kernel
theorem dX2_settingRefusal_24 : decode cX2_settingRefusal 24 = .ok (.bipush (-4), 2) := by decide +kernel
theorem dX2_settingRefusal_26 : decode cX2_settingRefusal 26 = .ok (.ireturn, 1) := by decide +kernel
theorem dX2_settingRefusal_27 : decode cX2_settingRefusal 27 = .ok (.iload_n 2, 1) := by decide +kernel
theorem dX2_settingRefusal_28 : decode cX2_settingRefusal 28 = .ok (.getstatic 72, 3) := by decide +kernel
theorem dX2_settingRefusal_31 : decode cX2_settingRefusal 31 = .ok (.iload_n 1, 1) := by decide +kernel
theorem dX2_settingRefusal_32 : decode cX2_settingRefusal 32 = .ok (.iaload, 1) := by decide +kernel
theorem dX2_settingRefusal_33 : decode cX2_settingRefusal 33 = .ok (.if_icmp .le 6, 3) := by decide +kernel
theorem dX2_settingRefusal_36 : decode cX2_settingRefusal 36 = .ok (.bipush (-6), 2) := by decide +kernel
theorem dX2_settingRefusal_38 : decode cX2_settingRefusal 38 = .ok (.ireturn, 1) := by decide +kernel
theorem dX2_settingRefusal_39 : decode cX2_settingRefusal 39 = .ok (.iload_n 1, 1) := by decide +kernel
theorem dX2_settingRefusal_40 : decode cX2_settingRefusal 40 = .ok (.ifCond .ne 15, 3) := by decide +kernel
theorem dX2_settingRefusal_43 : decode cX2_settingRefusal 43 = .ok (.iload_n 2, 1) := by decide +kernel
theorem dX2_settingRefusal_44 : decode cX2_settingRefusal 44 = .ok (.aload_n 0, 1) := by decide +kernel
theorem dX2_settingRefusal_45 : decode cX2_settingRefusal 45 = .ok (.invokevirtual 75, 3) := by decide +kernel
theorem dX2_settingRefusal_48 : decode cX2_settingRefusal 48 = .ok (.if_icmp .ge 7, 3) := by decide +kernel
theorem dX2_settingRefusal_51 : decode cX2_settingRefusal 51 = .ok (.iconst 1, 1) := by decide +kernel
theorem dX2_settingRefusal_52 : decode cX2_settingRefusal 52 = .ok (.goto 4, 3) := by decide +kernel
theorem dX2_settingRefusal_55 : decode cX2_settingRefusal 55 = .ok (.iconst 0, 1) := by decide +kernel
theorem dX2_settingRefusal_56 : decode cX2_settingRefusal 56 = .ok (.istore_n 3, 1) := by decide +kernel
theorem dX2_settingRefusal_57 : decode cX2_settingRefusal 57 = .ok (.iload_n 1, 1) := by decide +kernel
theorem dX2_settingRefusal_58 : decode cX2_settingRefusal 58 = .ok (.bipush 7, 2) := by decide +kernel
theorem dX2_settingRefusal_60 : decode cX2_settingRefusal 60 = .ok (.if_icmp .ne 25, 3) := by decide +kernel
theorem dX2_settingRefusal_63 : decode cX2_settingRefusal 63 = .ok (.iload_n 2, 1) := by decide +kernel
theorem dX2_settingRefusal_64 : decode cX2_settingRefusal 64 = .ok (.aload_n 0, 1) := by decide +kernel
theorem dX2_settingRefusal_65 : decode cX2_settingRefusal 65 = .ok (.getfield 18, 3) := by decide +kernel
theorem dX2_settingRefusal_68 : decode cX2_settingRefusal 68 = .ok (.bipush 7, 2) := by decide +kernel
theorem dX2_settingRefusal_70 : decode cX2_settingRefusal 70 = .ok (.iaload, 1) := by decide +kernel
theorem dX2_settingRefusal_71 : decode cX2_settingRefusal 71 = .ok (.if_icmp .eq 14, 3) := by decide +kernel
theorem dX2_settingRefusal_74 : decode cX2_settingRefusal 74 = .ok (.aload_n 0, 1) := by decide +kernel
theorem dX2_settingRefusal_75 : decode cX2_settingRefusal 75 = .ok (.getfield 53, 3) := by decide +kernel
theorem dX2_settingRefusal_78 : decode cX2_settingRefusal 78 = .ok (.ifCond .eq 7, 3) := by decide +kernel
theorem dX2_settingRefusal_81 : decode cX2_settingRefusal 81 = .ok (.iconst 1, 1) := by decide +kernel
theorem dX2_settingRefusal_82 : decode cX2_settingRefusal 82 = .ok (.goto 4, 3) := by decide +kernel
theorem dX2_settingRefusal_85 : decode cX2_settingRefusal 85 = .ok (.iconst 0, 1) := by decide +kernel
theorem dX2_settingRefusal_86 : decode cX2_settingRefusal 86 = .ok (.istore 4, 2) := by decide +kernel
theorem dX2_settingRefusal_88 : decode cX2_settingRefusal 88 = .ok (.iload_n 3, 1) := by decide +kernel
theorem dX2_settingRefusal_89 : decode cX2_settingRefusal 89 = .ok (.ifCond .ne 8, 3) := by decide +kernel
theorem dX2_settingRefusal_92 : decode cX2_settingRefusal 92 = .ok (.iload 4, 2) := by decide +kernel
theorem dX2_settingRefusal_94 : decode cX2_settingRefusal 94 = .ok (.ifCond .eq 8, 3) := by decide +kernel
theorem dX2_settingRefusal_97 : decode cX2_settingRefusal 97 = .ok (.bipush (-3), 2) := by decide +kernel
theorem dX2_settingRefusal_99 : decode cX2_settingRefusal 99 = .ok (.goto 4, 3) := by decide +kernel
theorem dX2_settingRefusal_102 : decode cX2_settingRefusal 102 = .ok (.iconst 0, 1) := by decide +kernel
theorem dX2_settingRefusal_103 : decode cX2_settingRefusal 103 = .ok (.ireturn, 1) := by decide +kernel
theorem dX2_change_0 : decode cX2_change 0 = .ok (.aload_n 0, 1) := by decide +kernel
theorem dX2_change_1 : decode cX2_change 1 = .ok (.getfield 18, 3) := by decide +kernel
theorem dX2_change_4 : decode cX2_change 4 = .ok (.iload_n 1, 1) := by decide +kernel
theorem dX2_change_5 : decode cX2_change 5 = .ok (.iaload, 1) := by decide +kernel
theorem dX2_change_6 : decode cX2_change 6 = .ok (.istore_n 3, 1) := by decide +kernel
theorem dX2_change_7 : decode cX2_change 7 = .ok (.aload_n 0, 1) := by decide +kernel
theorem dX2_change_8 : decode cX2_change 8 = .ok (.getfield 18, 3) := by decide +kernel
theorem dX2_change_11 : decode cX2_change 11 = .ok (.iload_n 1, 1) := by decide +kernel
theorem dX2_change_12 : decode cX2_change 12 = .ok (.iload_n 2, 1) := by decide +kernel
theorem dX2_change_13 : decode cX2_change 13 = .ok (.iastore, 1) := by decide +kernel
theorem dX2_change_14 : decode cX2_change 14 = .ok (.iload_n 3, 1) := by decide +kernel
theorem dX2_change_15 : decode cX2_change 15 = .ok (.ireturn, 1) := by decide +kernel
theorem dX2_add_0 : decode cX2_add 0 = .ok (.aload_n 0, 1) := by decide +kernel
theorem dX2_add_1 : decode cX2_add 1 = .ok (.getfield 46, 3) := by decide +kernel
theorem dX2_add_4 : decode cX2_add 4 = .ok (.aload_n 0, 1) := by decide +kernel
theorem dX2_add_5 : decode cX2_add 5 = .ok (.getfield 25, 3) := by decide +kernel
theorem dX2_add_8 : decode cX2_add 8 = .ok (.arraylength, 1) := by decide +kernel
theorem dX2_add_9 : decode cX2_add 9 = .ok (.if_icmp .ge 46, 3) := by decide +kernel
theorem dX2_add_12 : decode cX2_add 12 = .ok (.iload_n 1, 1) := by decide +kernel
theorem dX2_add_13 : decode cX2_add 13 = .ok (.bipush 7, 2) := by decide +kernel
theorem dX2_add_15 : decode cX2_add 15 = .ok (.if_icmp .ge 40, 3) := by decide +kernel
theorem dX2_add_18 : decode cX2_add 18 = .ok (.iload_n 3, 1) := by decide +kernel
theorem dX2_add_19 : decode cX2_add 19 = .ok (.bipush 120, 2) := by decide +kernel
theorem dX2_add_21 : decode cX2_add 21 = .ok (.if_icmp .ge 34, 3) := by decide +kernel
theorem dX2_add_24 : decode cX2_add 24 = .ok (.iload_n 3, 1) := by decide +kernel
theorem dX2_add_25 : decode cX2_add 25 = .ok (.aload_n 0, 1) := by decide +kernel
theorem dX2_add_26 : decode cX2_add 26 = .ok (.getfield 53, 3) := by decide +kernel
theorem dX2_add_29 : decode cX2_add 29 = .ok (.if_icmp .lt 26, 3) := by decide +kernel
theorem dX2_add_32 : decode cX2_add 32 = .ok (.iload 4, 2) := by decide +kernel
theorem dX2_add_34 : decode cX2_add 34 = .ok (.iconst 1, 1) := by decide +kernel
theorem dX2_add_35 : decode cX2_add 35 = .ok (.if_icmp .lt 20, 3) := by decide +kernel
theorem dX2_add_38 : decode cX2_add 38 = .ok (.iload 4, 2) := by decide +kernel
theorem dX2_add_40 : decode cX2_add 40 = .ok (.iconst 3, 1) := by decide +kernel
theorem dX2_add_41 : decode cX2_add 41 = .ok (.if_icmp .gt 14, 3) := by decide +kernel
theorem dX2_add_44 : decode cX2_add 44 = .ok (.iload 5, 2) := by decide +kernel
theorem dX2_add_46 : decode cX2_add 46 = .ok (.bipush 30, 2) := by decide +kernel
theorem dX2_add_48 : decode cX2_add 48 = .ok (.if_icmp .gt 7, 3) := by decide +kernel
theorem dX2_add_51 : decode cX2_add 51 = .ok (.iconst 1, 1) := by decide +kernel
theorem dX2_add_52 : decode cX2_add 52 = .ok (.goto 4, 3) := by decide +kernel
theorem dX2_add_55 : decode cX2_add 55 = .ok (.iconst 0, 1) := by decide +kernel
theorem dX2_add_56 : decode cX2_add 56 = .ok (.istore 6, 2) := by decide +kernel
theorem dX2_add_58 : decode cX2_add 58 = .ok (.iload 6, 2) := by decide +kernel
theorem dX2_add_60 : decode cX2_add 60 = .ok (.ifCond .eq 57, 3) := by decide +kernel
theorem dX2_add_63 : decode cX2_add 63 = .ok (.aload_n 0, 1) := by decide +kernel
theorem dX2_add_64 : decode cX2_add 64 = .ok (.getfield 25, 3) := by decide +kernel
theorem dX2_add_67 : decode cX2_add 67 = .ok (.aload_n 0, 1) := by decide +kernel
theorem dX2_add_68 : decode cX2_add 68 = .ok (.getfield 46, 3) := by decide +kernel
theorem dX2_add_71 : decode cX2_add 71 = .ok (.aaload, 1) := by decide +kernel
theorem dX2_add_72 : decode cX2_add 72 = .ok (.astore 7, 2) := by decide +kernel
theorem dX2_add_74 : decode cX2_add 74 = .ok (.aload 7, 2) := by decide +kernel
theorem dX2_add_76 : decode cX2_add 76 = .ok (.iload_n 1, 1) := by decide +kernel
theorem dX2_add_77 : decode cX2_add 77 = .ok (.iload_n 2, 1) := by decide +kernel
theorem dX2_add_78 : decode cX2_add 78 = .ok (.invokevirtual 79, 3) := by decide +kernel
theorem dX2_add_81 : decode cX2_add 81 = .ok (.aload 7, 2) := by decide +kernel
theorem dX2_add_83 : decode cX2_add 83 = .ok (.iload_n 3, 1) := by decide +kernel
theorem dX2_add_84 : decode cX2_add 84 = .ok (.putfield 83, 3) := by decide +kernel
theorem dX2_add_87 : decode cX2_add 87 = .ok (.aload 7, 2) := by decide +kernel
theorem dX2_add_89 : decode cX2_add 89 = .ok (.iload 4, 2) := by decide +kernel
theorem dX2_add_91 : decode cX2_add 91 = .ok (.putfield 84, 3) := by decide +kernel
theorem dX2_add_94 : decode cX2_add 94 = .ok (.aload 7, 2) := by decide +kernel
theorem dX2_add_96 : decode cX2_add 96 = .ok (.iload 5, 2) := by decide +kernel
theorem dX2_add_98 : decode cX2_add 98 = .ok (.putfield 87, 3) := by decide +kernel
theorem dX2_add_101 : decode cX2_add 101 = .ok (.aload 7, 2) := by decide +kernel
theorem dX2_add_103 : decode cX2_add 103 = .ok (.iconst 0, 1) := by decide +kernel
theorem dX2_add_104 : decode cX2_add 104 = .ok (.putfield 63, 3) := by decide +kernel
theorem dX2_add_107 : decode cX2_add 107 = .ok (.aload_n 0, 1) := by decide +kernel
theorem dX2_add_108 : decode cX2_add 108 = .ok (.dup, 1) := by decide +kernel
theorem dX2_add_109 : decode cX2_add 109 = .ok (.getfield 46, 3) := by decide +kernel
theorem dX2_add_112 : decode cX2_add 112 = .ok (.iconst 1, 1) := by decide +kernel
theorem dX2_add_113 : decode cX2_add 113 = .ok (.iadd, 1) := by decide +kernel
theorem dX2_add_114 : decode cX2_add 114 = .ok (.putfield 46, 3) := by decide +kernel
theorem dX2_add_117 : decode cX2_add 117 = .ok (.iload 6, 2) := by decide +kernel
theorem dX2_add_119 : decode cX2_add 119 = .ok (.ireturn, 1) := by decide +kernel
theorem dX2_isOver_0 : decode cX2_isOver 0 = .ok (.aload_n 0, 1) := by decide +kernel
theorem dX2_isOver_1 : decode cX2_isOver 1 = .ok (.getfield 53, 3) := by decide +kernel
theorem dX2_isOver_4 : decode cX2_isOver 4 = .ok (.sipush 180, 3) := by decide +kernel
theorem dX2_isOver_7 : decode cX2_isOver 7 = .ok (.if_icmp .ge 25, 3) := by decide +kernel
theorem dX2_isOver_10 : decode cX2_isOver 10 = .ok (.aload_n 0, 1) := by decide +kernel
theorem dX2_isOver_11 : decode cX2_isOver 11 = .ok (.getfield 50, 3) := by decide +kernel
theorem dX2_isOver_14 : decode cX2_isOver 14 = .ok (.ifCond .ne 22, 3) := by decide +kernel
theorem dX2_isOver_17 : decode cX2_isOver 17 = .ok (.aload_n 0, 1) := by decide +kernel
theorem dX2_isOver_18 : decode cX2_isOver 18 = .ok (.iconst 0, 1) := by decide +kernel
theorem dX2_isOver_19 : decode cX2_isOver 19 = .ok (.invokevirtual 90, 3) := by decide +kernel
theorem dX2_isOver_22 : decode cX2_isOver 22 = .ok (.ifCond .ne 14, 3) := by decide +kernel
theorem dX2_isOver_25 : decode cX2_isOver 25 = .ok (.aload_n 0, 1) := by decide +kernel
theorem dX2_isOver_26 : decode cX2_isOver 26 = .ok (.invokevirtual 94, 3) := by decide +kernel
theorem dX2_isOver_29 : decode cX2_isOver 29 = .ok (.ifCond .eq 7, 3) := by decide +kernel
theorem dX2_isOver_32 : decode cX2_isOver 32 = .ok (.iconst 1, 1) := by decide +kernel
theorem dX2_isOver_33 : decode cX2_isOver 33 = .ok (.goto 4, 3) := by decide +kernel
theorem dX2_isOver_36 : decode cX2_isOver 36 = .ok (.iconst 0, 1) := by decide +kernel
theorem dX2_isOver_37 : decode cX2_isOver 37 = .ok (.ireturn, 1) := by decide +kernel
theorem dX2_allFree_0 : decode cX2_allFree 0 = .ok (.iconst 0, 1) := by decide +kernel
theorem dX2_allFree_1 : decode cX2_allFree 1 = .ok (.istore_n 1, 1) := by decide +kernel
theorem dX2_allFree_2 : decode cX2_allFree 2 = .ok (.iload_n 1, 1) := by decide +kernel
theorem dX2_allFree_3 : decode cX2_allFree 3 = .ok (.aload_n 0, 1) := by decide +kernel
theorem dX2_allFree_4 : decode cX2_allFree 4 = .ok (.invokevirtual 98, 3) := by decide +kernel
theorem dX2_allFree_7 : decode cX2_allFree 7 = .ok (.if_icmp .ge 27, 3) := by decide +kernel
theorem dX2_allFree_10 : decode cX2_allFree 10 = .ok (.aload_n 0, 1) := by decide +kernel
theorem dX2_allFree_11 : decode cX2_allFree 11 = .ok (.getfield 32, 3) := by decide +kernel
theorem dX2_allFree_14 : decode cX2_allFree 14 = .ok (.iload_n 1, 1) := by decide +kernel
theorem dX2_allFree_15 : decode cX2_allFree 15 = .ok (.aaload, 1) := by decide +kernel
theorem dX2_allFree_16 : decode cX2_allFree 16 = .ok (.aload_n 0, 1) := by decide +kernel
theorem dX2_allFree_17 : decode cX2_allFree 17 = .ok (.getfield 53, 3) := by decide +kernel
theorem dX2_allFree_20 : decode cX2_allFree 20 = .ok (.invokevirtual 101, 3) := by decide +kernel
theorem dX2_allFree_23 : decode cX2_allFree 23 = .ok (.ifCond .ne 5, 3) := by decide +kernel
theorem dX2_allFree_26 : decode cX2_allFree 26 = .ok (.iconst 0, 1) := by decide +kernel
theorem dX2_allFree_27 : decode cX2_allFree 27 = .ok (.ireturn, 1) := by decide +kernel
theorem dX2_allFree_28 : decode cX2_allFree 28 = .ok (.iinc 1 1, 3) := by decide +kernel
theorem dX2_allFree_31 : decode cX2_allFree 31 = .ok (.goto (-29), 3) := by decide +kernel
theorem dX2_allFree_34 : decode cX2_allFree 34 = .ok (.iconst 1, 1) := by decide +kernel
theorem dX2_allFree_35 : decode cX2_allFree 35 = .ok (.ireturn, 1) := by decide +kernel
theorem dX2_pass_0 : decode cX2_pass 0 = .ok (.iconst 0, 1) := by decide +kernel
theorem dX2_pass_1 : decode cX2_pass 1 = .ok (.istore_n 2, 1) := by decide +kernel
theorem dX2_pass_2 : decode cX2_pass 2 = .ok (.iload_n 2, 1) := by decide +kernel
theorem dX2_pass_3 : decode cX2_pass 3 = .ok (.iload_n 1, 1) := by decide +kernel
theorem dX2_pass_4 : decode cX2_pass 4 = .ok (.if_icmp .ge 20, 3) := by decide +kernel
theorem dX2_pass_7 : decode cX2_pass 7 = .ok (.aload_n 0, 1) := by decide +kernel
theorem dX2_pass_8 : decode cX2_pass 8 = .ok (.invokevirtual 105, 3) := by decide +kernel
theorem dX2_pass_11 : decode cX2_pass 11 = .ok (.ifCond .ne 13, 3) := by decide +kernel
theorem dX2_pass_14 : decode cX2_pass 14 = .ok (.aload_n 0, 1) := by decide +kernel
theorem dX2_pass_15 : decode cX2_pass 15 = .ok (.invokevirtual 108, 3) := by decide +kernel
theorem dX2_pass_18 : decode cX2_pass 18 = .ok (.iinc 2 1, 3) := by decide +kernel
theorem dX2_pass_21 : decode cX2_pass 21 = .ok (.goto (-19), 3) := by decide +kernel
theorem dX2_pass_24 : decode cX2_pass 24 = .ok (.return_, 1) := by decide +kernel
theorem dX2_passMinute_0 : decode cX2_passMinute 0 = .ok (.aload_n 0, 1) := by decide +kernel
theorem dX2_passMinute_1 : decode cX2_passMinute 1 = .ok (.invokevirtual 111, 3) := by decide +kernel
theorem dX2_passMinute_4 : decode cX2_passMinute 4 = .ok (.aload_n 0, 1) := by decide +kernel
theorem dX2_passMinute_5 : decode cX2_passMinute 5 = .ok (.invokevirtual 114, 3) := by decide +kernel
theorem dX2_passMinute_8 : decode cX2_passMinute 8 = .ok (.iconst 0, 1) := by decide +kernel
theorem dX2_passMinute_9 : decode cX2_passMinute 9 = .ok (.istore_n 1, 1) := by decide +kernel
theorem dX2_passMinute_10 : decode cX2_passMinute 10 = .ok (.iload_n 1, 1) := by decide +kernel
theorem dX2_passMinute_11 : decode cX2_passMinute 11 = .ok (.aload_n 0, 1) := by decide +kernel
theorem dX2_passMinute_12 : decode cX2_passMinute 12 = .ok (.getfield 50, 3) := by decide +kernel
theorem dX2_passMinute_15 : decode cX2_passMinute 15 = .ok (.if_icmp .ge 32, 3) := by decide +kernel
theorem dX2_passMinute_18 : decode cX2_passMinute 18 = .ok (.aload_n 0, 1) := by decide +kernel
theorem dX2_passMinute_19 : decode cX2_passMinute 19 = .ok (.aload_n 0, 1) := by decide +kernel
theorem dX2_passMinute_20 : decode cX2_passMinute 20 = .ok (.getfield 37, 3) := by decide +kernel
theorem dX2_passMinute_23 : decode cX2_passMinute 23 = .ok (.iload_n 1, 1) := by decide +kernel
theorem dX2_passMinute_24 : decode cX2_passMinute 24 = .ok (.iaload, 1) := by decide +kernel
theorem dX2_passMinute_25 : decode cX2_passMinute 25 = .ok (.invokevirtual 117, 3) := by decide +kernel
theorem dX2_passMinute_28 : decode cX2_passMinute 28 = .ok (.ifCond .ne 13, 3) := by decide +kernel
theorem dX2_passMinute_31 : decode cX2_passMinute 31 = .ok (.aload_n 0, 1) := by decide +kernel
theorem dX2_passMinute_32 : decode cX2_passMinute 32 = .ok (.aload_n 0, 1) := by decide +kernel
theorem dX2_passMinute_33 : decode cX2_passMinute 33 = .ok (.getfield 37, 3) := by decide +kernel
theorem dX2_passMinute_36 : decode cX2_passMinute 36 = .ok (.iload_n 1, 1) := by decide +kernel
theorem dX2_passMinute_37 : decode cX2_passMinute 37 = .ok (.iaload, 1) := by decide +kernel
theorem dX2_passMinute_38 : decode cX2_passMinute 38 = .ok (.invokevirtual 120, 3) := by decide +kernel
theorem dX2_passMinute_41 : decode cX2_passMinute 41 = .ok (.iinc 1 1, 3) := by decide +kernel
theorem dX2_passMinute_44 : decode cX2_passMinute 44 = .ok (.goto (-34), 3) := by decide +kernel
theorem dX2_passMinute_47 : decode cX2_passMinute 47 = .ok (.aload_n 0, 1) := by decide +kernel
theorem dX2_passMinute_48 : decode cX2_passMinute 48 = .ok (.invokevirtual 124, 3) := by decide +kernel
theorem dX2_passMinute_51 : decode cX2_passMinute 51 = .ok (.aload_n 0, 1) := by decide +kernel
theorem dX2_passMinute_52 : decode cX2_passMinute 52 = .ok (.invokevirtual 127, 3) := by decide +kernel
theorem dX2_passMinute_55 : decode cX2_passMinute 55 = .ok (.aload_n 0, 1) := by decide +kernel
theorem dX2_passMinute_56 : decode cX2_passMinute 56 = .ok (.dup, 1) := by decide +kernel
theorem dX2_passMinute_57 : decode cX2_passMinute 57 = .ok (.getfield 53, 3) := by decide +kernel
theorem dX2_passMinute_60 : decode cX2_passMinute 60 = .ok (.iconst 1, 1) := by decide +kernel
theorem dX2_passMinute_61 : decode cX2_passMinute 61 = .ok (.iadd, 1) := by decide +kernel
theorem dX2_passMinute_62 : decode cX2_passMinute 62 = .ok (.putfield 53, 3) := by decide +kernel
theorem dX2_passMinute_65 : decode cX2_passMinute 65 = .ok (.return_, 1) := by decide +kernel
theorem dX2_lineUp_0 : decode cX2_lineUp 0 = .ok (.iconst 0, 1) := by decide +kernel
theorem dX2_lineUp_1 : decode cX2_lineUp 1 = .ok (.istore_n 1, 1) := by decide +kernel
theorem dX2_lineUp_2 : decode cX2_lineUp 2 = .ok (.iload_n 1, 1) := by decide +kernel
theorem dX2_lineUp_3 : decode cX2_lineUp 3 = .ok (.aload_n 0, 1) := by decide +kernel
theorem dX2_lineUp_4 : decode cX2_lineUp 4 = .ok (.getfield 46, 3) := by decide +kernel
theorem dX2_lineUp_7 : decode cX2_lineUp 7 = .ok (.if_icmp .ge 79, 3) := by decide +kernel
theorem dX2_lineUp_10 : decode cX2_lineUp 10 = .ok (.aload_n 0, 1) := by decide +kernel
theorem dX2_lineUp_11 : decode cX2_lineUp 11 = .ok (.getfield 25, 3) := by decide +kernel
theorem dX2_lineUp_14 : decode cX2_lineUp 14 = .ok (.iload_n 1, 1) := by decide +kernel
theorem dX2_lineUp_15 : decode cX2_lineUp 15 = .ok (.aaload, 1) := by decide +kernel
theorem dX2_lineUp_16 : decode cX2_lineUp 16 = .ok (.getfield 63, 3) := by decide +kernel
theorem dX2_lineUp_19 : decode cX2_lineUp 19 = .ok (.ifCond .ne 61, 3) := by decide +kernel
theorem dX2_lineUp_22 : decode cX2_lineUp 22 = .ok (.aload_n 0, 1) := by decide +kernel
theorem dX2_lineUp_23 : decode cX2_lineUp 23 = .ok (.getfield 25, 3) := by decide +kernel
theorem dX2_lineUp_26 : decode cX2_lineUp 26 = .ok (.iload_n 1, 1) := by decide +kernel
theorem dX2_lineUp_27 : decode cX2_lineUp 27 = .ok (.aaload, 1) := by decide +kernel
theorem dX2_lineUp_28 : decode cX2_lineUp 28 = .ok (.getfield 83, 3) := by decide +kernel
theorem dX2_lineUp_31 : decode cX2_lineUp 31 = .ok (.aload_n 0, 1) := by decide +kernel
theorem dX2_lineUp_32 : decode cX2_lineUp 32 = .ok (.getfield 53, 3) := by decide +kernel
theorem dX2_lineUp_35 : decode cX2_lineUp 35 = .ok (.if_icmp .ne 45, 3) := by decide +kernel
theorem dX2_lineUp_38 : decode cX2_lineUp 38 = .ok (.aload_n 0, 1) := by decide +kernel
theorem dX2_lineUp_39 : decode cX2_lineUp 39 = .ok (.getfield 50, 3) := by decide +kernel
theorem dX2_lineUp_42 : decode cX2_lineUp 42 = .ok (.aload_n 0, 1) := by decide +kernel
theorem dX2_lineUp_43 : decode cX2_lineUp 43 = .ok (.getfield 37, 3) := by decide +kernel
theorem dX2_lineUp_46 : decode cX2_lineUp 46 = .ok (.arraylength, 1) := by decide +kernel
theorem dX2_lineUp_47 : decode cX2_lineUp 47 = .ok (.if_icmp .ge 33, 3) := by decide +kernel
theorem dX2_lineUp_50 : decode cX2_lineUp 50 = .ok (.aload_n 0, 1) := by decide +kernel
theorem dX2_lineUp_51 : decode cX2_lineUp 51 = .ok (.getfield 25, 3) := by decide +kernel
theorem dX2_lineUp_54 : decode cX2_lineUp 54 = .ok (.iload_n 1, 1) := by decide +kernel
theorem dX2_lineUp_55 : decode cX2_lineUp 55 = .ok (.aaload, 1) := by decide +kernel
theorem dX2_lineUp_56 : decode cX2_lineUp 56 = .ok (.iconst 1, 1) := by decide +kernel
theorem dX2_lineUp_57 : decode cX2_lineUp 57 = .ok (.putfield 63, 3) := by decide +kernel
theorem dX2_lineUp_60 : decode cX2_lineUp 60 = .ok (.aload_n 0, 1) := by decide +kernel
theorem dX2_lineUp_61 : decode cX2_lineUp 61 = .ok (.getfield 37, 3) := by decide +kernel
theorem dX2_lineUp_64 : decode cX2_lineUp 64 = .ok (.aload_n 0, 1) := by decide +kernel
theorem dX2_lineUp_65 : decode cX2_lineUp 65 = .ok (.getfield 50, 3) := by decide +kernel
theorem dX2_lineUp_68 : decode cX2_lineUp 68 = .ok (.iload_n 1, 1) := by decide +kernel
theorem dX2_lineUp_69 : decode cX2_lineUp 69 = .ok (.iastore, 1) := by decide +kernel
theorem dX2_lineUp_70 : decode cX2_lineUp 70 = .ok (.aload_n 0, 1) := by decide +kernel
theorem dX2_lineUp_71 : decode cX2_lineUp 71 = .ok (.dup, 1) := by decide +kernel
theorem dX2_lineUp_72 : decode cX2_lineUp 72 = .ok (.getfield 50, 3) := by decide +kernel
theorem dX2_lineUp_75 : decode cX2_lineUp 75 = .ok (.iconst 1, 1) := by decide +kernel
theorem dX2_lineUp_76 : decode cX2_lineUp 76 = .ok (.iadd, 1) := by decide +kernel
theorem dX2_lineUp_77 : decode cX2_lineUp 77 = .ok (.putfield 50, 3) := by decide +kernel
theorem dX2_lineUp_80 : decode cX2_lineUp 80 = .ok (.iinc 1 1, 3) := by decide +kernel
theorem dX2_lineUp_83 : decode cX2_lineUp 83 = .ok (.goto (-81), 3) := by decide +kernel
theorem dX2_lineUp_86 : decode cX2_lineUp 86 = .ok (.return_, 1) := by decide +kernel
theorem dX2_loseImpatient_0 : decode cX2_loseImpatient 0 = .ok (.iconst 0, 1) := by decide +kernel
theorem dX2_loseImpatient_1 : decode cX2_loseImpatient 1 = .ok (.istore_n 1, 1) := by decide +kernel
theorem dX2_loseImpatient_2 : decode cX2_loseImpatient 2 = .ok (.iload_n 1, 1) := by decide +kernel
theorem dX2_loseImpatient_3 : decode cX2_loseImpatient 3 = .ok (.aload_n 0, 1) := by decide +kernel
theorem dX2_loseImpatient_4 : decode cX2_loseImpatient 4 = .ok (.getfield 50, 3) := by decide +kernel
theorem dX2_loseImpatient_7 : decode cX2_loseImpatient 7 = .ok (.if_icmp .ge 42, 3) := by decide +kernel
theorem dX2_loseImpatient_10 : decode cX2_loseImpatient 10 = .ok (.aload_n 0, 1) := by decide +kernel
theorem dX2_loseImpatient_11 : decode cX2_loseImpatient 11 = .ok (.getfield 25, 3) := by decide +kernel
theorem dX2_loseImpatient_14 : decode cX2_loseImpatient 14 = .ok (.aload_n 0, 1) := by decide +kernel
theorem dX2_loseImpatient_15 : decode cX2_loseImpatient 15 = .ok (.getfield 37, 3) := by decide +kernel
theorem dX2_loseImpatient_18 : decode cX2_loseImpatient 18 = .ok (.iload_n 1, 1) := by decide +kernel
theorem dX2_loseImpatient_19 : decode cX2_loseImpatient 19 = .ok (.iaload, 1) := by decide +kernel
theorem dX2_loseImpatient_20 : decode cX2_loseImpatient 20 = .ok (.aaload, 1) := by decide +kernel
theorem dX2_loseImpatient_21 : decode cX2_loseImpatient 21 = .ok (.astore_n 2, 1) := by decide +kernel
theorem dX2_loseImpatient_22 : decode cX2_loseImpatient 22 = .ok (.aload_n 0, 1) := by decide +kernel
theorem dX2_loseImpatient_23 : decode cX2_loseImpatient 23 = .ok (.getfield 53, 3) := by decide +kernel
theorem dX2_loseImpatient_26 : decode cX2_loseImpatient 26 = .ok (.aload_n 2, 1) := by decide +kernel
theorem dX2_loseImpatient_27 : decode cX2_loseImpatient 27 = .ok (.getfield 83, 3) := by decide +kernel
theorem dX2_loseImpatient_30 : decode cX2_loseImpatient 30 = .ok (.isub, 1) := by decide +kernel
theorem dX2_loseImpatient_31 : decode cX2_loseImpatient 31 = .ok (.aload_n 2, 1) := by decide +kernel
theorem dX2_loseImpatient_32 : decode cX2_loseImpatient 32 = .ok (.getfield 87, 3) := by decide +kernel
theorem dX2_loseImpatient_35 : decode cX2_loseImpatient 35 = .ok (.if_icmp .le 8, 3) := by decide +kernel
theorem dX2_loseImpatient_38 : decode cX2_loseImpatient 38 = .ok (.aload_n 2, 1) := by decide +kernel
theorem dX2_loseImpatient_39 : decode cX2_loseImpatient 39 = .ok (.iconst 3, 1) := by decide +kernel
theorem dX2_loseImpatient_40 : decode cX2_loseImpatient 40 = .ok (.putfield 63, 3) := by decide +kernel
theorem dX2_loseImpatient_43 : decode cX2_loseImpatient 43 = .ok (.iinc 1 1, 3) := by decide +kernel
theorem dX2_loseImpatient_46 : decode cX2_loseImpatient 46 = .ok (.goto (-44), 3) := by decide +kernel
theorem dX2_loseImpatient_49 : decode cX2_loseImpatient 49 = .ok (.aload_n 0, 1) := by decide +kernel
theorem dX2_loseImpatient_50 : decode cX2_loseImpatient 50 = .ok (.invokevirtual 124, 3) := by decide +kernel
theorem dX2_loseImpatient_53 : decode cX2_loseImpatient 53 = .ok (.return_, 1) := by decide +kernel
theorem dX2_serve_0 : decode cX2_serve 0 = .ok (.aload_n 0, 1) := by decide +kernel
theorem dX2_serve_1 : decode cX2_serve 1 = .ok (.getfield 25, 3) := by decide +kernel
theorem dX2_serve_4 : decode cX2_serve 4 = .ok (.iload_n 1, 1) := by decide +kernel
theorem dX2_serve_5 : decode cX2_serve 5 = .ok (.aaload, 1) := by decide +kernel
theorem dX2_serve_6 : decode cX2_serve 6 = .ok (.astore_n 2, 1) := by decide +kernel
theorem dX2_serve_7 : decode cX2_serve 7 = .ok (.aload_n 0, 1) := by decide +kernel
theorem dX2_serve_8 : decode cX2_serve 8 = .ok (.aload_n 2, 1) := by decide +kernel
theorem dX2_serve_9 : decode cX2_serve 9 = .ok (.getfield 84, 3) := by decide +kernel
theorem dX2_serve_12 : decode cX2_serve 12 = .ok (.invokevirtual 130, 3) := by decide +kernel
theorem dX2_serve_15 : decode cX2_serve 15 = .ok (.astore_n 3, 1) := by decide +kernel
theorem dX2_serve_16 : decode cX2_serve 16 = .ok (.aload_n 3, 1) := by decide +kernel
theorem dX2_serve_17 : decode cX2_serve 17 = .ok (.ifnull 29, 3) := by decide +kernel
theorem dX2_serve_20 : decode cX2_serve 20 = .ok (.aload_n 3, 1) := by decide +kernel
theorem dX2_serve_21 : decode cX2_serve 21 = .ok (.dup, 1) := by decide +kernel
theorem dX2_serve_22 : decode cX2_serve 22 = .ok (.getfield 134, 3) := by decide +kernel
theorem dX2_serve_25 : decode cX2_serve 25 = .ok (.aload_n 2, 1) := by decide +kernel
theorem dX2_serve_26 : decode cX2_serve 26 = .ok (.getfield 84, 3) := by decide +kernel
theorem dX2_serve_29 : decode cX2_serve 29 = .ok (.isub, 1) := by decide +kernel
theorem dX2_serve_30 : decode cX2_serve 30 = .ok (.putfield 134, 3) := by decide +kernel
theorem dX2_serve_33 : decode cX2_serve 33 = .ok (.aload_n 2, 1) := by decide +kernel
theorem dX2_serve_34 : decode cX2_serve 34 = .ok (.iconst 2, 1) := by decide +kernel
theorem dX2_serve_35 : decode cX2_serve 35 = .ok (.putfield 63, 3) := by decide +kernel
theorem dX2_serve_38 : decode cX2_serve 38 = .ok (.aload_n 2, 1) := by decide +kernel
theorem dX2_serve_39 : decode cX2_serve 39 = .ok (.aload_n 0, 1) := by decide +kernel
theorem dX2_serve_40 : decode cX2_serve 40 = .ok (.getfield 53, 3) := by decide +kernel
theorem dX2_serve_43 : decode cX2_serve 43 = .ok (.putfield 137, 3) := by decide +kernel
theorem dX2_serve_46 : decode cX2_serve 46 = .ok (.aload_n 3, 1) := by decide +kernel
theorem dX2_serve_47 : decode cX2_serve 47 = .ok (.ifnull 7, 3) := by decide +kernel
theorem dX2_serve_50 : decode cX2_serve 50 = .ok (.iconst 1, 1) := by decide +kernel
theorem dX2_serve_51 : decode cX2_serve 51 = .ok (.goto 4, 3) := by decide +kernel
theorem dX2_serve_54 : decode cX2_serve 54 = .ok (.iconst 0, 1) := by decide +kernel
theorem dX2_serve_55 : decode cX2_serve 55 = .ok (.ireturn, 1) := by decide +kernel
theorem dX2_boil_0 : decode cX2_boil 0 = .ok (.aload_n 0, 1) := by decide +kernel
theorem dX2_boil_1 : decode cX2_boil 1 = .ok (.invokevirtual 140, 3) := by decide +kernel
theorem dX2_boil_4 : decode cX2_boil 4 = .ok (.astore_n 2, 1) := by decide +kernel
theorem dX2_boil_5 : decode cX2_boil 5 = .ok (.aload_n 2, 1) := by decide +kernel
theorem dX2_boil_6 : decode cX2_boil 6 = .ok (.ifnull 11, 3) := by decide +kernel
theorem dX2_boil_9 : decode cX2_boil 9 = .ok (.aload_n 0, 1) := by decide +kernel
theorem dX2_boil_10 : decode cX2_boil 10 = .ok (.iload_n 1, 1) := by decide +kernel
theorem dX2_boil_11 : decode cX2_boil 11 = .ok (.invokevirtual 144, 3) := by decide +kernel
theorem dX2_boil_14 : decode cX2_boil 14 = .ok (.ifCond .eq 4, 3) := by decide +kernel
theorem dX2_boil_17 : decode cX2_boil 17 = .ok (.return_, 1) := by decide +kernel
theorem dX2_boil_18 : decode cX2_boil 18 = .ok (.aload_n 0, 1) := by decide +kernel
theorem dX2_boil_19 : decode cX2_boil 19 = .ok (.aload_n 0, 1) := by decide +kernel
theorem dX2_boil_20 : decode cX2_boil 20 = .ok (.getfield 25, 3) := by decide +kernel
theorem dX2_boil_23 : decode cX2_boil 23 = .ok (.iload_n 1, 1) := by decide +kernel
theorem dX2_boil_24 : decode cX2_boil 24 = .ok (.aaload, 1) := by decide +kernel
theorem dX2_boil_25 : decode cX2_boil 25 = .ok (.aload_n 0, 1) := by decide +kernel
theorem dX2_boil_26 : decode cX2_boil 26 = .ok (.getfield 25, 3) := by decide +kernel
theorem dX2_boil_29 : decode cX2_boil 29 = .ok (.iload_n 1, 1) := by decide +kernel
theorem dX2_boil_30 : decode cX2_boil 30 = .ok (.aaload, 1) := by decide +kernel
theorem dX2_boil_31 : decode cX2_boil 31 = .ok (.getfield 147, 3) := by decide +kernel
theorem dX2_boil_34 : decode cX2_boil 34 = .ok (.invokevirtual 150, 3) := by decide +kernel
theorem dX2_boil_37 : decode cX2_boil 37 = .ok (.istore_n 3, 1) := by decide +kernel
theorem dX2_boil_38 : decode cX2_boil 38 = .ok (.aload_n 0, 1) := by decide +kernel
theorem dX2_boil_39 : decode cX2_boil 39 = .ok (.getfield 53, 3) := by decide +kernel
theorem dX2_boil_42 : decode cX2_boil 42 = .ok (.istore 4, 2) := by decide +kernel
theorem dX2_boil_44 : decode cX2_boil 44 = .ok (.aload_n 2, 1) := by decide +kernel
theorem dX2_boil_45 : decode cX2_boil 45 = .ok (.getfield 134, 3) := by decide +kernel
theorem dX2_boil_48 : decode cX2_boil 48 = .ok (.iload_n 3, 1) := by decide +kernel
theorem dX2_boil_49 : decode cX2_boil 49 = .ok (.if_icmp .ge 19, 3) := by decide +kernel
theorem dX2_boil_52 : decode cX2_boil 52 = .ok (.aload_n 2, 1) := by decide +kernel
theorem dX2_boil_53 : decode cX2_boil 53 = .ok (.iload_n 3, 1) := by decide +kernel
theorem dX2_boil_54 : decode cX2_boil 54 = .ok (.invokevirtual 154, 3) := by decide +kernel
theorem dX2_boil_57 : decode cX2_boil 57 = .ok (.iload 4, 2) := by decide +kernel
theorem dX2_boil_59 : decode cX2_boil 59 = .ok (.aload_n 0, 1) := by decide +kernel
theorem dX2_boil_60 : decode cX2_boil 60 = .ok (.getfield 18, 3) := by decide +kernel
theorem dX2_boil_63 : decode cX2_boil 63 = .ok (.iconst 1, 1) := by decide +kernel
theorem dX2_boil_64 : decode cX2_boil 64 = .ok (.iaload, 1) := by decide +kernel
theorem dX2_boil_65 : decode cX2_boil 65 = .ok (.iadd, 1) := by decide +kernel
theorem dX2_boil_66 : decode cX2_boil 66 = .ok (.istore 4, 2) := by decide +kernel
theorem dX2_boil_68 : decode cX2_boil 68 = .ok (.aload_n 2, 1) := by decide +kernel
theorem dX2_boil_69 : decode cX2_boil 69 = .ok (.iload_n 1, 1) := by decide +kernel
theorem dX2_boil_70 : decode cX2_boil 70 = .ok (.iload 4, 2) := by decide +kernel
theorem dX2_boil_72 : decode cX2_boil 72 = .ok (.aload_n 0, 1) := by decide +kernel
theorem dX2_boil_73 : decode cX2_boil 73 = .ok (.getfield 18, 3) := by decide +kernel
theorem dX2_boil_76 : decode cX2_boil 76 = .ok (.iconst 2, 1) := by decide +kernel
theorem dX2_boil_77 : decode cX2_boil 77 = .ok (.iaload, 1) := by decide +kernel
theorem dX2_boil_78 : decode cX2_boil 78 = .ok (.invokevirtual 157, 3) := by decide +kernel
theorem dX2_boil_81 : decode cX2_boil 81 = .ok (.aload_n 0, 1) := by decide +kernel
theorem dX2_boil_82 : decode cX2_boil 82 = .ok (.dup, 1) := by decide +kernel
theorem dX2_boil_83 : decode cX2_boil 83 = .ok (.getfield 161, 3) := by decide +kernel
theorem dX2_boil_86 : decode cX2_boil 86 = .ok (.iconst 1, 1) := by decide +kernel
theorem dX2_boil_87 : decode cX2_boil 87 = .ok (.iadd, 1) := by decide +kernel
theorem dX2_boil_88 : decode cX2_boil 88 = .ok (.putfield 161, 3) := by decide +kernel
theorem dX2_boil_91 : decode cX2_boil 91 = .ok (.return_, 1) := by decide +kernel
theorem dX2_firstReady_0 : decode cX2_firstReady 0 = .ok (.iconst 0, 1) := by decide +kernel
theorem dX2_firstReady_1 : decode cX2_firstReady 1 = .ok (.istore_n 2, 1) := by decide +kernel
theorem dX2_firstReady_2 : decode cX2_firstReady 2 = .ok (.iload_n 2, 1) := by decide +kernel
theorem dX2_firstReady_3 : decode cX2_firstReady 3 = .ok (.aload_n 0, 1) := by decide +kernel
theorem dX2_firstReady_4 : decode cX2_firstReady 4 = .ok (.invokevirtual 98, 3) := by decide +kernel
theorem dX2_firstReady_7 : decode cX2_firstReady 7 = .ok (.if_icmp .ge 33, 3) := by decide +kernel
theorem dX2_firstReady_10 : decode cX2_firstReady 10 = .ok (.aload_n 0, 1) := by decide +kernel
theorem dX2_firstReady_11 : decode cX2_firstReady 11 = .ok (.getfield 32, 3) := by decide +kernel
theorem dX2_firstReady_14 : decode cX2_firstReady 14 = .ok (.iload_n 2, 1) := by decide +kernel
theorem dX2_firstReady_15 : decode cX2_firstReady 15 = .ok (.aaload, 1) := by decide +kernel
theorem dX2_firstReady_16 : decode cX2_firstReady 16 = .ok (.aload_n 0, 1) := by decide +kernel
theorem dX2_firstReady_17 : decode cX2_firstReady 17 = .ok (.getfield 53, 3) := by decide +kernel
theorem dX2_firstReady_20 : decode cX2_firstReady 20 = .ok (.iload_n 1, 1) := by decide +kernel
theorem dX2_firstReady_21 : decode cX2_firstReady 21 = .ok (.invokevirtual 164, 3) := by decide +kernel
theorem dX2_firstReady_24 : decode cX2_firstReady 24 = .ok (.ifCond .eq 10, 3) := by decide +kernel
theorem dX2_firstReady_27 : decode cX2_firstReady 27 = .ok (.aload_n 0, 1) := by decide +kernel
theorem dX2_firstReady_28 : decode cX2_firstReady 28 = .ok (.getfield 32, 3) := by decide +kernel
theorem dX2_firstReady_31 : decode cX2_firstReady 31 = .ok (.iload_n 2, 1) := by decide +kernel
theorem dX2_firstReady_32 : decode cX2_firstReady 32 = .ok (.aaload, 1) := by decide +kernel
theorem dX2_firstReady_33 : decode cX2_firstReady 33 = .ok (.areturn, 1) := by decide +kernel
theorem dX2_firstReady_34 : decode cX2_firstReady 34 = .ok (.iinc 2 1, 3) := by decide +kernel
theorem dX2_firstReady_37 : decode cX2_firstReady 37 = .ok (.goto (-35), 3) := by decide +kernel
theorem dX2_firstReady_40 : decode cX2_firstReady 40 = .ok (.aconst_null, 1) := by decide +kernel
theorem dX2_firstReady_41 : decode cX2_firstReady 41 = .ok (.areturn, 1) := by decide +kernel
theorem dX2_firstFree_0 : decode cX2_firstFree 0 = .ok (.iconst 0, 1) := by decide +kernel
theorem dX2_firstFree_1 : decode cX2_firstFree 1 = .ok (.istore_n 1, 1) := by decide +kernel
theorem dX2_firstFree_2 : decode cX2_firstFree 2 = .ok (.iload_n 1, 1) := by decide +kernel
theorem dX2_firstFree_3 : decode cX2_firstFree 3 = .ok (.aload_n 0, 1) := by decide +kernel
theorem dX2_firstFree_4 : decode cX2_firstFree 4 = .ok (.invokevirtual 98, 3) := by decide +kernel
theorem dX2_firstFree_7 : decode cX2_firstFree 7 = .ok (.if_icmp .ge 32, 3) := by decide +kernel
theorem dX2_firstFree_10 : decode cX2_firstFree 10 = .ok (.aload_n 0, 1) := by decide +kernel
theorem dX2_firstFree_11 : decode cX2_firstFree 11 = .ok (.getfield 32, 3) := by decide +kernel
theorem dX2_firstFree_14 : decode cX2_firstFree 14 = .ok (.iload_n 1, 1) := by decide +kernel
theorem dX2_firstFree_15 : decode cX2_firstFree 15 = .ok (.aaload, 1) := by decide +kernel
theorem dX2_firstFree_16 : decode cX2_firstFree 16 = .ok (.aload_n 0, 1) := by decide +kernel
theorem dX2_firstFree_17 : decode cX2_firstFree 17 = .ok (.getfield 53, 3) := by decide +kernel
theorem dX2_firstFree_20 : decode cX2_firstFree 20 = .ok (.invokevirtual 101, 3) := by decide +kernel
theorem dX2_firstFree_23 : decode cX2_firstFree 23 = .ok (.ifCond .eq 10, 3) := by decide +kernel
theorem dX2_firstFree_26 : decode cX2_firstFree 26 = .ok (.aload_n 0, 1) := by decide +kernel
theorem dX2_firstFree_27 : decode cX2_firstFree 27 = .ok (.getfield 32, 3) := by decide +kernel
theorem dX2_firstFree_30 : decode cX2_firstFree 30 = .ok (.iload_n 1, 1) := by decide +kernel
theorem dX2_firstFree_31 : decode cX2_firstFree 31 = .ok (.aaload, 1) := by decide +kernel
theorem dX2_firstFree_32 : decode cX2_firstFree 32 = .ok (.areturn, 1) := by decide +kernel
theorem dX2_firstFree_33 : decode cX2_firstFree 33 = .ok (.iinc 1 1, 3) := by decide +kernel
theorem dX2_firstFree_36 : decode cX2_firstFree 36 = .ok (.goto (-34), 3) := by decide +kernel
theorem dX2_firstFree_39 : decode cX2_firstFree 39 = .ok (.aconst_null, 1) := by decide +kernel
theorem dX2_firstFree_40 : decode cX2_firstFree 40 = .ok (.areturn, 1) := by decide +kernel
theorem dX2_waitsForOwn_0 : decode cX2_waitsForOwn 0 = .ok (.iconst 0, 1) := by decide +kernel
theorem dX2_waitsForOwn_1 : decode cX2_waitsForOwn 1 = .ok (.istore_n 2, 1) := by decide +kernel
theorem dX2_waitsForOwn_2 : decode cX2_waitsForOwn 2 = .ok (.iload_n 2, 1) := by decide +kernel
theorem dX2_waitsForOwn_3 : decode cX2_waitsForOwn 3 = .ok (.aload_n 0, 1) := by decide +kernel
theorem dX2_waitsForOwn_4 : decode cX2_waitsForOwn 4 = .ok (.invokevirtual 98, 3) := by decide +kernel
theorem dX2_waitsForOwn_7 : decode cX2_waitsForOwn 7 = .ok (.if_icmp .ge 40, 3) := by decide +kernel
theorem dX2_waitsForOwn_10 : decode cX2_waitsForOwn 10 = .ok (.aload_n 0, 1) := by decide +kernel
theorem dX2_waitsForOwn_11 : decode cX2_waitsForOwn 11 = .ok (.getfield 32, 3) := by decide +kernel
theorem dX2_waitsForOwn_14 : decode cX2_waitsForOwn 14 = .ok (.iload_n 2, 1) := by decide +kernel
theorem dX2_waitsForOwn_15 : decode cX2_waitsForOwn 15 = .ok (.aaload, 1) := by decide +kernel
theorem dX2_waitsForOwn_16 : decode cX2_waitsForOwn 16 = .ok (.getfield 168, 3) := by decide +kernel
theorem dX2_waitsForOwn_19 : decode cX2_waitsForOwn 19 = .ok (.iload_n 1, 1) := by decide +kernel
theorem dX2_waitsForOwn_20 : decode cX2_waitsForOwn 20 = .ok (.if_icmp .ne 21, 3) := by decide +kernel
theorem dX2_waitsForOwn_23 : decode cX2_waitsForOwn 23 = .ok (.aload_n 0, 1) := by decide +kernel
theorem dX2_waitsForOwn_24 : decode cX2_waitsForOwn 24 = .ok (.getfield 32, 3) := by decide +kernel
theorem dX2_waitsForOwn_27 : decode cX2_waitsForOwn 27 = .ok (.iload_n 2, 1) := by decide +kernel
theorem dX2_waitsForOwn_28 : decode cX2_waitsForOwn 28 = .ok (.aaload, 1) := by decide +kernel
theorem dX2_waitsForOwn_29 : decode cX2_waitsForOwn 29 = .ok (.aload_n 0, 1) := by decide +kernel
theorem dX2_waitsForOwn_30 : decode cX2_waitsForOwn 30 = .ok (.getfield 53, 3) := by decide +kernel
theorem dX2_waitsForOwn_33 : decode cX2_waitsForOwn 33 = .ok (.invokevirtual 101, 3) := by decide +kernel
theorem dX2_waitsForOwn_36 : decode cX2_waitsForOwn 36 = .ok (.ifCond .ne 5, 3) := by decide +kernel
theorem dX2_waitsForOwn_39 : decode cX2_waitsForOwn 39 = .ok (.iconst 1, 1) := by decide +kernel
theorem dX2_waitsForOwn_40 : decode cX2_waitsForOwn 40 = .ok (.ireturn, 1) := by decide +kernel
theorem dX2_waitsForOwn_41 : decode cX2_waitsForOwn 41 = .ok (.iinc 2 1, 3) := by decide +kernel
theorem dX2_waitsForOwn_44 : decode cX2_waitsForOwn 44 = .ok (.goto (-42), 3) := by decide +kernel
theorem dX2_waitsForOwn_47 : decode cX2_waitsForOwn 47 = .ok (.iconst 0, 1) := by decide +kernel
theorem dX2_waitsForOwn_48 : decode cX2_waitsForOwn 48 = .ok (.ireturn, 1) := by decide +kernel
theorem dX2_closeUp_0 : decode cX2_closeUp 0 = .ok (.iconst 0, 1) := by decide +kernel
theorem dX2_closeUp_1 : decode cX2_closeUp 1 = .ok (.istore_n 1, 1) := by decide +kernel
theorem dX2_closeUp_2 : decode cX2_closeUp 2 = .ok (.iconst 0, 1) := by decide +kernel
theorem dX2_closeUp_3 : decode cX2_closeUp 3 = .ok (.istore_n 2, 1) := by decide +kernel
theorem dX2_closeUp_4 : decode cX2_closeUp 4 = .ok (.iload_n 2, 1) := by decide +kernel
theorem dX2_closeUp_5 : decode cX2_closeUp 5 = .ok (.aload_n 0, 1) := by decide +kernel
theorem dX2_closeUp_6 : decode cX2_closeUp 6 = .ok (.getfield 50, 3) := by decide +kernel
theorem dX2_closeUp_9 : decode cX2_closeUp 9 = .ok (.if_icmp .ge 42, 3) := by decide +kernel
theorem dX2_closeUp_12 : decode cX2_closeUp 12 = .ok (.aload_n 0, 1) := by decide +kernel
theorem dX2_closeUp_13 : decode cX2_closeUp 13 = .ok (.getfield 25, 3) := by decide +kernel
theorem dX2_closeUp_16 : decode cX2_closeUp 16 = .ok (.aload_n 0, 1) := by decide +kernel
theorem dX2_closeUp_17 : decode cX2_closeUp 17 = .ok (.getfield 37, 3) := by decide +kernel
theorem dX2_closeUp_20 : decode cX2_closeUp 20 = .ok (.iload_n 2, 1) := by decide +kernel
theorem dX2_closeUp_21 : decode cX2_closeUp 21 = .ok (.iaload, 1) := by decide +kernel
theorem dX2_closeUp_22 : decode cX2_closeUp 22 = .ok (.aaload, 1) := by decide +kernel
theorem dX2_closeUp_23 : decode cX2_closeUp 23 = .ok (.getfield 63, 3) := by decide +kernel
theorem dX2_closeUp_26 : decode cX2_closeUp 26 = .ok (.iconst 1, 1) := by decide +kernel
theorem dX2_closeUp_27 : decode cX2_closeUp 27 = .ok (.if_icmp .ne 18, 3) := by decide +kernel
theorem dX2_closeUp_30 : decode cX2_closeUp 30 = .ok (.aload_n 0, 1) := by decide +kernel
theorem dX2_closeUp_31 : decode cX2_closeUp 31 = .ok (.getfield 37, 3) := by decide +kernel
theorem dX2_closeUp_34 : decode cX2_closeUp 34 = .ok (.iload_n 1, 1) := by decide +kernel
theorem dX2_closeUp_35 : decode cX2_closeUp 35 = .ok (.aload_n 0, 1) := by decide +kernel
theorem dX2_closeUp_36 : decode cX2_closeUp 36 = .ok (.getfield 37, 3) := by decide +kernel
theorem dX2_closeUp_39 : decode cX2_closeUp 39 = .ok (.iload_n 2, 1) := by decide +kernel
theorem dX2_closeUp_40 : decode cX2_closeUp 40 = .ok (.iaload, 1) := by decide +kernel
theorem dX2_closeUp_41 : decode cX2_closeUp 41 = .ok (.iastore, 1) := by decide +kernel
theorem dX2_closeUp_42 : decode cX2_closeUp 42 = .ok (.iinc 1 1, 3) := by decide +kernel
theorem dX2_closeUp_45 : decode cX2_closeUp 45 = .ok (.iinc 2 1, 3) := by decide +kernel
theorem dX2_closeUp_48 : decode cX2_closeUp 48 = .ok (.goto (-44), 3) := by decide +kernel
theorem dX2_closeUp_51 : decode cX2_closeUp 51 = .ok (.aload_n 0, 1) := by decide +kernel
theorem dX2_closeUp_52 : decode cX2_closeUp 52 = .ok (.iload_n 1, 1) := by decide +kernel
theorem dX2_closeUp_53 : decode cX2_closeUp 53 = .ok (.putfield 50, 3) := by decide +kernel
theorem dX2_closeUp_56 : decode cX2_closeUp 56 = .ok (.return_, 1) := by decide +kernel
theorem dX2_coolDown_0 : decode cX2_coolDown 0 = .ok (.iconst 0, 1) := by decide +kernel
theorem dX2_coolDown_1 : decode cX2_coolDown 1 = .ok (.istore_n 1, 1) := by decide +kernel
theorem dX2_coolDown_2 : decode cX2_coolDown 2 = .ok (.iload_n 1, 1) := by decide +kernel
theorem dX2_coolDown_3 : decode cX2_coolDown 3 = .ok (.aload_n 0, 1) := by decide +kernel
theorem dX2_coolDown_4 : decode cX2_coolDown 4 = .ok (.invokevirtual 98, 3) := by decide +kernel
theorem dX2_coolDown_7 : decode cX2_coolDown 7 = .ok (.if_icmp .ge 52, 3) := by decide +kernel
theorem dX2_coolDown_10 : decode cX2_coolDown 10 = .ok (.aload_n 0, 1) := by decide +kernel
theorem dX2_coolDown_11 : decode cX2_coolDown 11 = .ok (.getfield 32, 3) := by decide +kernel
theorem dX2_coolDown_14 : decode cX2_coolDown 14 = .ok (.iload_n 1, 1) := by decide +kernel
theorem dX2_coolDown_15 : decode cX2_coolDown 15 = .ok (.aaload, 1) := by decide +kernel
theorem dX2_coolDown_16 : decode cX2_coolDown 16 = .ok (.getfield 134, 3) := by decide +kernel
theorem dX2_coolDown_19 : decode cX2_coolDown 19 = .ok (.ifCond .le 34, 3) := by decide +kernel
theorem dX2_coolDown_22 : decode cX2_coolDown 22 = .ok (.aload_n 0, 1) := by decide +kernel
theorem dX2_coolDown_23 : decode cX2_coolDown 23 = .ok (.getfield 32, 3) := by decide +kernel
theorem dX2_coolDown_26 : decode cX2_coolDown 26 = .ok (.iload_n 1, 1) := by decide +kernel
theorem dX2_coolDown_27 : decode cX2_coolDown 27 = .ok (.aaload, 1) := by decide +kernel
theorem dX2_coolDown_28 : decode cX2_coolDown 28 = .ok (.aload_n 0, 1) := by decide +kernel
theorem dX2_coolDown_29 : decode cX2_coolDown 29 = .ok (.getfield 53, 3) := by decide +kernel
theorem dX2_coolDown_32 : decode cX2_coolDown 32 = .ok (.invokevirtual 101, 3) := by decide +kernel
theorem dX2_coolDown_35 : decode cX2_coolDown 35 = .ok (.ifCond .eq 18, 3) := by decide +kernel
theorem dX2_coolDown_38 : decode cX2_coolDown 38 = .ok (.aload_n 0, 1) := by decide +kernel
theorem dX2_coolDown_39 : decode cX2_coolDown 39 = .ok (.getfield 32, 3) := by decide +kernel
theorem dX2_coolDown_42 : decode cX2_coolDown 42 = .ok (.iload_n 1, 1) := by decide +kernel
theorem dX2_coolDown_43 : decode cX2_coolDown 43 = .ok (.aaload, 1) := by decide +kernel
theorem dX2_coolDown_44 : decode cX2_coolDown 44 = .ok (.aload_n 0, 1) := by decide +kernel
theorem dX2_coolDown_45 : decode cX2_coolDown 45 = .ok (.getfield 18, 3) := by decide +kernel
theorem dX2_coolDown_48 : decode cX2_coolDown 48 = .ok (.iconst 3, 1) := by decide +kernel
theorem dX2_coolDown_49 : decode cX2_coolDown 49 = .ok (.iaload, 1) := by decide +kernel
theorem dX2_coolDown_50 : decode cX2_coolDown 50 = .ok (.invokevirtual 171, 3) := by decide +kernel
theorem dX2_coolDown_53 : decode cX2_coolDown 53 = .ok (.iinc 1 1, 3) := by decide +kernel
theorem dX2_coolDown_56 : decode cX2_coolDown 56 = .ok (.goto (-54), 3) := by decide +kernel
theorem dX2_coolDown_59 : decode cX2_coolDown 59 = .ok (.return_, 1) := by decide +kernel
theorem dX2_upTo_0 : decode cX2_upTo 0 = .ok (.iload_n 2, 1) := by decide +kernel
theorem dX2_upTo_1 : decode cX2_upTo 1 = .ok (.tableswitch 106 1 6 #[39, 47, 57, 65, 87, 98], 39) := by decide +kernel
theorem dX2_upTo_40 : decode cX2_upTo 40 = .ok (.aload_n 1, 1) := by decide +kernel
theorem dX2_upTo_41 : decode cX2_upTo 41 = .ok (.getfield 84, 3) := by decide +kernel
theorem dX2_upTo_44 : decode cX2_upTo 44 = .ok (.istore_n 3, 1) := by decide +kernel
theorem dX2_upTo_45 : decode cX2_upTo 45 = .ok (.goto 69, 3) := by decide +kernel
theorem dX2_upTo_48 : decode cX2_upTo 48 = .ok (.aload_n 0, 1) := by decide +kernel
theorem dX2_upTo_49 : decode cX2_upTo 49 = .ok (.getfield 18, 3) := by decide +kernel
theorem dX2_upTo_52 : decode cX2_upTo 52 = .ok (.iconst 0, 1) := by decide +kernel
theorem dX2_upTo_53 : decode cX2_upTo 53 = .ok (.iaload, 1) := by decide +kernel
theorem dX2_upTo_54 : decode cX2_upTo 54 = .ok (.istore_n 3, 1) := by decide +kernel
theorem dX2_upTo_55 : decode cX2_upTo 55 = .ok (.goto 59, 3) := by decide +kernel
theorem dX2_upTo_58 : decode cX2_upTo 58 = .ok (.aload_n 0, 1) := by decide +kernel
theorem dX2_upTo_59 : decode cX2_upTo 59 = .ok (.invokevirtual 174, 3) := by decide +kernel
theorem dX2_upTo_62 : decode cX2_upTo 62 = .ok (.istore_n 3, 1) := by decide +kernel
theorem dX2_upTo_63 : decode cX2_upTo 63 = .ok (.goto 51, 3) := by decide +kernel
theorem dX2_upTo_66 : decode cX2_upTo 66 = .ok (.aload_n 0, 1) := by decide +kernel
theorem dX2_upTo_67 : decode cX2_upTo 67 = .ok (.invokevirtual 174, 3) := by decide +kernel
theorem dX2_upTo_70 : decode cX2_upTo 70 = .ok (.aload_n 0, 1) := by decide +kernel
theorem dX2_upTo_71 : decode cX2_upTo 71 = .ok (.aload_n 0, 1) := by decide +kernel
theorem dX2_upTo_72 : decode cX2_upTo 72 = .ok (.getfield 53, 3) := by decide +kernel
theorem dX2_upTo_75 : decode cX2_upTo 75 = .ok (.aload_n 1, 1) := by decide +kernel
theorem dX2_upTo_76 : decode cX2_upTo 76 = .ok (.getfield 177, 3) := by decide +kernel
theorem dX2_upTo_79 : decode cX2_upTo 79 = .ok (.iadd, 1) := by decide +kernel
theorem dX2_upTo_80 : decode cX2_upTo 80 = .ok (.invokevirtual 180, 3) := by decide +kernel
theorem dX2_upTo_83 : decode cX2_upTo 83 = .ok (.iadd, 1) := by decide +kernel
theorem dX2_upTo_84 : decode cX2_upTo 84 = .ok (.istore_n 3, 1) := by decide +kernel
theorem dX2_upTo_85 : decode cX2_upTo 85 = .ok (.goto 29, 3) := by decide +kernel
theorem dX2_upTo_88 : decode cX2_upTo 88 = .ok (.aload_n 0, 1) := by decide +kernel
theorem dX2_upTo_89 : decode cX2_upTo 89 = .ok (.getfield 18, 3) := by decide +kernel
theorem dX2_upTo_92 : decode cX2_upTo 92 = .ok (.bipush 6, 2) := by decide +kernel
theorem dX2_upTo_94 : decode cX2_upTo 94 = .ok (.iaload, 1) := by decide +kernel
theorem dX2_upTo_95 : decode cX2_upTo 95 = .ok (.istore_n 3, 1) := by decide +kernel
theorem dX2_upTo_96 : decode cX2_upTo 96 = .ok (.goto 18, 3) := by decide +kernel
theorem dX2_upTo_99 : decode cX2_upTo 99 = .ok (.aload_n 1, 1) := by decide +kernel
theorem dX2_upTo_100 : decode cX2_upTo 100 = .ok (.getfield 177, 3) := by decide +kernel
theorem dX2_upTo_103 : decode cX2_upTo 103 = .ok (.istore_n 3, 1) := by decide +kernel
theorem dX2_upTo_104 : decode cX2_upTo 104 = .ok (.goto 10, 3) := by decide +kernel
theorem dX2_upTo_107 : decode cX2_upTo 107 = .ok (.aload_n 1, 1) := by decide +kernel
theorem dX2_upTo_108 : decode cX2_upTo 108 = .ok (.getfield 84, 3) := by decide +kernel
theorem dX2_upTo_111 : decode cX2_upTo 111 = .ok (.iconst 1, 1) := by decide +kernel
theorem dX2_upTo_112 : decode cX2_upTo 112 = .ok (.iadd, 1) := by decide +kernel
theorem dX2_upTo_113 : decode cX2_upTo 113 = .ok (.istore_n 3, 1) := by decide +kernel
theorem dX2_upTo_114 : decode cX2_upTo 114 = .ok (.aload_n 0, 1) := by decide +kernel
theorem dX2_upTo_115 : decode cX2_upTo 115 = .ok (.getfield 18, 3) := by decide +kernel
theorem dX2_upTo_118 : decode cX2_upTo 118 = .ok (.iconst 0, 1) := by decide +kernel
theorem dX2_upTo_119 : decode cX2_upTo 119 = .ok (.iaload, 1) := by decide +kernel
theorem dX2_upTo_120 : decode cX2_upTo 120 = .ok (.aload_n 1, 1) := by decide +kernel
theorem dX2_upTo_121 : decode cX2_upTo 121 = .ok (.getfield 84, 3) := by decide +kernel
theorem dX2_upTo_124 : decode cX2_upTo 124 = .ok (.iload_n 3, 1) := by decide +kernel
theorem dX2_upTo_125 : decode cX2_upTo 125 = .ok (.invokestatic 183, 3) := by decide +kernel
theorem dX2_upTo_128 : decode cX2_upTo 128 = .ok (.invokestatic 189, 3) := by decide +kernel
theorem dX2_upTo_131 : decode cX2_upTo 131 = .ok (.ireturn, 1) := by decide +kernel
theorem dX2_wantsInLine_0 : decode cX2_wantsInLine 0 = .ok (.iconst 0, 1) := by decide +kernel
theorem dX2_wantsInLine_1 : decode cX2_wantsInLine 1 = .ok (.istore_n 1, 1) := by decide +kernel
theorem dX2_wantsInLine_2 : decode cX2_wantsInLine 2 = .ok (.iconst 0, 1) := by decide +kernel
theorem dX2_wantsInLine_3 : decode cX2_wantsInLine 3 = .ok (.istore_n 2, 1) := by decide +kernel
theorem dX2_wantsInLine_4 : decode cX2_wantsInLine 4 = .ok (.iload_n 2, 1) := by decide +kernel
theorem dX2_wantsInLine_5 : decode cX2_wantsInLine 5 = .ok (.aload_n 0, 1) := by decide +kernel
theorem dX2_wantsInLine_6 : decode cX2_wantsInLine 6 = .ok (.getfield 46, 3) := by decide +kernel
theorem dX2_wantsInLine_9 : decode cX2_wantsInLine 9 = .ok (.if_icmp .ge 34, 3) := by decide +kernel
theorem dX2_wantsInLine_12 : decode cX2_wantsInLine 12 = .ok (.aload_n 0, 1) := by decide +kernel
theorem dX2_wantsInLine_13 : decode cX2_wantsInLine 13 = .ok (.getfield 25, 3) := by decide +kernel
theorem dX2_wantsInLine_16 : decode cX2_wantsInLine 16 = .ok (.iload_n 2, 1) := by decide +kernel
theorem dX2_wantsInLine_17 : decode cX2_wantsInLine 17 = .ok (.aaload, 1) := by decide +kernel
theorem dX2_wantsInLine_18 : decode cX2_wantsInLine 18 = .ok (.getfield 63, 3) := by decide +kernel
theorem dX2_wantsInLine_21 : decode cX2_wantsInLine 21 = .ok (.iconst 1, 1) := by decide +kernel
theorem dX2_wantsInLine_22 : decode cX2_wantsInLine 22 = .ok (.if_icmp .ne 15, 3) := by decide +kernel
theorem dX2_wantsInLine_25 : decode cX2_wantsInLine 25 = .ok (.iload_n 1, 1) := by decide +kernel
theorem dX2_wantsInLine_26 : decode cX2_wantsInLine 26 = .ok (.aload_n 0, 1) := by decide +kernel
theorem dX2_wantsInLine_27 : decode cX2_wantsInLine 27 = .ok (.getfield 25, 3) := by decide +kernel
theorem dX2_wantsInLine_30 : decode cX2_wantsInLine 30 = .ok (.iload_n 2, 1) := by decide +kernel
theorem dX2_wantsInLine_31 : decode cX2_wantsInLine 31 = .ok (.aaload, 1) := by decide +kernel
theorem dX2_wantsInLine_32 : decode cX2_wantsInLine 32 = .ok (.getfield 84, 3) := by decide +kernel
theorem dX2_wantsInLine_35 : decode cX2_wantsInLine 35 = .ok (.iadd, 1) := by decide +kernel
theorem dX2_wantsInLine_36 : decode cX2_wantsInLine 36 = .ok (.istore_n 1, 1) := by decide +kernel
theorem dX2_wantsInLine_37 : decode cX2_wantsInLine 37 = .ok (.iinc 2 1, 3) := by decide +kernel
theorem dX2_wantsInLine_40 : decode cX2_wantsInLine 40 = .ok (.goto (-36), 3) := by decide +kernel
theorem dX2_wantsInLine_43 : decode cX2_wantsInLine 43 = .ok (.iload_n 1, 1) := by decide +kernel
theorem dX2_wantsInLine_44 : decode cX2_wantsInLine 44 = .ok (.ireturn, 1) := by decide +kernel
theorem dX2_wantsToCome_0 : decode cX2_wantsToCome 0 = .ok (.iconst 0, 1) := by decide +kernel
theorem dX2_wantsToCome_1 : decode cX2_wantsToCome 1 = .ok (.istore_n 2, 1) := by decide +kernel
theorem dX2_wantsToCome_2 : decode cX2_wantsToCome 2 = .ok (.iconst 0, 1) := by decide +kernel
theorem dX2_wantsToCome_3 : decode cX2_wantsToCome 3 = .ok (.istore_n 3, 1) := by decide +kernel
theorem dX2_wantsToCome_4 : decode cX2_wantsToCome 4 = .ok (.iload_n 3, 1) := by decide +kernel
theorem dX2_wantsToCome_5 : decode cX2_wantsToCome 5 = .ok (.aload_n 0, 1) := by decide +kernel
theorem dX2_wantsToCome_6 : decode cX2_wantsToCome 6 = .ok (.getfield 46, 3) := by decide +kernel
theorem dX2_wantsToCome_9 : decode cX2_wantsToCome 9 = .ok (.if_icmp .ge 46, 3) := by decide +kernel
theorem dX2_wantsToCome_12 : decode cX2_wantsToCome 12 = .ok (.aload_n 0, 1) := by decide +kernel
theorem dX2_wantsToCome_13 : decode cX2_wantsToCome 13 = .ok (.getfield 25, 3) := by decide +kernel
theorem dX2_wantsToCome_16 : decode cX2_wantsToCome 16 = .ok (.iload_n 3, 1) := by decide +kernel
theorem dX2_wantsToCome_17 : decode cX2_wantsToCome 17 = .ok (.aaload, 1) := by decide +kernel
theorem dX2_wantsToCome_18 : decode cX2_wantsToCome 18 = .ok (.getfield 63, 3) := by decide +kernel
theorem dX2_wantsToCome_21 : decode cX2_wantsToCome 21 = .ok (.ifCond .ne 28, 3) := by decide +kernel
theorem dX2_wantsToCome_24 : decode cX2_wantsToCome 24 = .ok (.aload_n 0, 1) := by decide +kernel
theorem dX2_wantsToCome_25 : decode cX2_wantsToCome 25 = .ok (.getfield 25, 3) := by decide +kernel
theorem dX2_wantsToCome_28 : decode cX2_wantsToCome 28 = .ok (.iload_n 3, 1) := by decide +kernel
theorem dX2_wantsToCome_29 : decode cX2_wantsToCome 29 = .ok (.aaload, 1) := by decide +kernel
theorem dX2_wantsToCome_30 : decode cX2_wantsToCome 30 = .ok (.getfield 83, 3) := by decide +kernel
theorem dX2_wantsToCome_33 : decode cX2_wantsToCome 33 = .ok (.iload_n 1, 1) := by decide +kernel
theorem dX2_wantsToCome_34 : decode cX2_wantsToCome 34 = .ok (.if_icmp .gt 15, 3) := by decide +kernel
theorem dX2_wantsToCome_37 : decode cX2_wantsToCome 37 = .ok (.iload_n 2, 1) := by decide +kernel
theorem dX2_wantsToCome_38 : decode cX2_wantsToCome 38 = .ok (.aload_n 0, 1) := by decide +kernel
theorem dX2_wantsToCome_39 : decode cX2_wantsToCome 39 = .ok (.getfield 25, 3) := by decide +kernel
theorem dX2_wantsToCome_42 : decode cX2_wantsToCome 42 = .ok (.iload_n 3, 1) := by decide +kernel
theorem dX2_wantsToCome_43 : decode cX2_wantsToCome 43 = .ok (.aaload, 1) := by decide +kernel
theorem dX2_wantsToCome_44 : decode cX2_wantsToCome 44 = .ok (.getfield 84, 3) := by decide +kernel
theorem dX2_wantsToCome_47 : decode cX2_wantsToCome 47 = .ok (.iadd, 1) := by decide +kernel
theorem dX2_wantsToCome_48 : decode cX2_wantsToCome 48 = .ok (.istore_n 2, 1) := by decide +kernel
theorem dX2_wantsToCome_49 : decode cX2_wantsToCome 49 = .ok (.iinc 3 1, 3) := by decide +kernel
theorem dX2_wantsToCome_52 : decode cX2_wantsToCome 52 = .ok (.goto (-48), 3) := by decide +kernel
theorem dX2_wantsToCome_55 : decode cX2_wantsToCome 55 = .ok (.iload_n 2, 1) := by decide +kernel
theorem dX2_wantsToCome_56 : decode cX2_wantsToCome 56 = .ok (.ireturn, 1) := by decide +kernel
theorem dX2_kindsThatFill_0 : decode cX2_kindsThatFill 0 = .ok (.iconst 0, 1) := by decide +kernel
theorem dX2_kindsThatFill_1 : decode cX2_kindsThatFill 1 = .ok (.istore_n 2, 1) := by decide +kernel
theorem dX2_kindsThatFill_2 : decode cX2_kindsThatFill 2 = .ok (.iconst 0, 1) := by decide +kernel
theorem dX2_kindsThatFill_3 : decode cX2_kindsThatFill 3 = .ok (.istore_n 3, 1) := by decide +kernel
theorem dX2_kindsThatFill_4 : decode cX2_kindsThatFill 4 = .ok (.iload_n 3, 1) := by decide +kernel
theorem dX2_kindsThatFill_5 : decode cX2_kindsThatFill 5 = .ok (.bipush 7, 2) := by decide +kernel
theorem dX2_kindsThatFill_7 : decode cX2_kindsThatFill 7 = .ok (.if_icmp .ge 42, 3) := by decide +kernel
theorem dX2_kindsThatFill_10 : decode cX2_kindsThatFill 10 = .ok (.aload_n 0, 1) := by decide +kernel
theorem dX2_kindsThatFill_11 : decode cX2_kindsThatFill 11 = .ok (.getfield 50, 3) := by decide +kernel
theorem dX2_kindsThatFill_14 : decode cX2_kindsThatFill 14 = .ok (.ifCond .le 35, 3) := by decide +kernel
theorem dX2_kindsThatFill_17 : decode cX2_kindsThatFill 17 = .ok (.aload_n 0, 1) := by decide +kernel
theorem dX2_kindsThatFill_18 : decode cX2_kindsThatFill 18 = .ok (.aload_n 0, 1) := by decide +kernel
theorem dX2_kindsThatFill_19 : decode cX2_kindsThatFill 19 = .ok (.getfield 25, 3) := by decide +kernel
theorem dX2_kindsThatFill_22 : decode cX2_kindsThatFill 22 = .ok (.aload_n 0, 1) := by decide +kernel
theorem dX2_kindsThatFill_23 : decode cX2_kindsThatFill 23 = .ok (.getfield 37, 3) := by decide +kernel
theorem dX2_kindsThatFill_26 : decode cX2_kindsThatFill 26 = .ok (.iconst 0, 1) := by decide +kernel
theorem dX2_kindsThatFill_27 : decode cX2_kindsThatFill 27 = .ok (.iaload, 1) := by decide +kernel
theorem dX2_kindsThatFill_28 : decode cX2_kindsThatFill 28 = .ok (.aaload, 1) := by decide +kernel
theorem dX2_kindsThatFill_29 : decode cX2_kindsThatFill 29 = .ok (.iload_n 3, 1) := by decide +kernel
theorem dX2_kindsThatFill_30 : decode cX2_kindsThatFill 30 = .ok (.invokevirtual 150, 3) := by decide +kernel
theorem dX2_kindsThatFill_33 : decode cX2_kindsThatFill 33 = .ok (.iload_n 1, 1) := by decide +kernel
theorem dX2_kindsThatFill_34 : decode cX2_kindsThatFill 34 = .ok (.if_icmp .ne 9, 3) := by decide +kernel
theorem dX2_kindsThatFill_37 : decode cX2_kindsThatFill 37 = .ok (.iload_n 2, 1) := by decide +kernel
theorem dX2_kindsThatFill_38 : decode cX2_kindsThatFill 38 = .ok (.iconst 1, 1) := by decide +kernel
theorem dX2_kindsThatFill_39 : decode cX2_kindsThatFill 39 = .ok (.iload_n 3, 1) := by decide +kernel
theorem dX2_kindsThatFill_40 : decode cX2_kindsThatFill 40 = .ok (.ishl, 1) := by decide +kernel
theorem dX2_kindsThatFill_41 : decode cX2_kindsThatFill 41 = .ok (.ior, 1) := by decide +kernel
theorem dX2_kindsThatFill_42 : decode cX2_kindsThatFill 42 = .ok (.istore_n 2, 1) := by decide +kernel
theorem dX2_kindsThatFill_43 : decode cX2_kindsThatFill 43 = .ok (.iinc 3 1, 3) := by decide +kernel
theorem dX2_kindsThatFill_46 : decode cX2_kindsThatFill 46 = .ok (.goto (-42), 3) := by decide +kernel
theorem dX2_kindsThatFill_49 : decode cX2_kindsThatFill 49 = .ok (.iload_n 2, 1) := by decide +kernel
theorem dX2_kindsThatFill_50 : decode cX2_kindsThatFill 50 = .ok (.ireturn, 1) := by decide +kernel
theorem dX2_comersWith_0 : decode cX2_comersWith 0 = .ok (.iconst 0, 1) := by decide +kernel
theorem dX2_comersWith_1 : decode cX2_comersWith 1 = .ok (.istore_n 2, 1) := by decide +kernel
theorem dX2_comersWith_2 : decode cX2_comersWith 2 = .ok (.iconst 0, 1) := by decide +kernel
theorem dX2_comersWith_3 : decode cX2_comersWith 3 = .ok (.istore_n 3, 1) := by decide +kernel
theorem dX2_comersWith_4 : decode cX2_comersWith 4 = .ok (.iload_n 3, 1) := by decide +kernel
theorem dX2_comersWith_5 : decode cX2_comersWith 5 = .ok (.aload_n 0, 1) := by decide +kernel
theorem dX2_comersWith_6 : decode cX2_comersWith 6 = .ok (.getfield 46, 3) := by decide +kernel
theorem dX2_comersWith_9 : decode cX2_comersWith 9 = .ok (.if_icmp .ge 25, 3) := by decide +kernel
theorem dX2_comersWith_12 : decode cX2_comersWith 12 = .ok (.aload_n 0, 1) := by decide +kernel
theorem dX2_comersWith_13 : decode cX2_comersWith 13 = .ok (.getfield 25, 3) := by decide +kernel
theorem dX2_comersWith_16 : decode cX2_comersWith 16 = .ok (.iload_n 3, 1) := by decide +kernel
theorem dX2_comersWith_17 : decode cX2_comersWith 17 = .ok (.aaload, 1) := by decide +kernel
theorem dX2_comersWith_18 : decode cX2_comersWith 18 = .ok (.getfield 63, 3) := by decide +kernel
theorem dX2_comersWith_21 : decode cX2_comersWith 21 = .ok (.iload_n 1, 1) := by decide +kernel
theorem dX2_comersWith_22 : decode cX2_comersWith 22 = .ok (.if_icmp .ne 6, 3) := by decide +kernel
theorem dX2_comersWith_25 : decode cX2_comersWith 25 = .ok (.iinc 2 1, 3) := by decide +kernel
theorem dX2_comersWith_28 : decode cX2_comersWith 28 = .ok (.iinc 3 1, 3) := by decide +kernel
theorem dX2_comersWith_31 : decode cX2_comersWith 31 = .ok (.goto (-27), 3) := by decide +kernel
theorem dX2_comersWith_34 : decode cX2_comersWith 34 = .ok (.iload_n 2, 1) := by decide +kernel
theorem dX2_comersWith_35 : decode cX2_comersWith 35 = .ok (.ireturn, 1) := by decide +kernel
theorem dX2_someoneWantsTooMuch_0 : decode cX2_someoneWantsTooMuch 0 = .ok (.iconst 0, 1) := by decide +kernel
theorem dX2_someoneWantsTooMuch_1 : decode cX2_someoneWantsTooMuch 1 = .ok (.istore_n 1, 1) := by decide +kernel
theorem dX2_someoneWantsTooMuch_2 : decode cX2_someoneWantsTooMuch 2 = .ok (.iload_n 1, 1) := by decide +kernel
theorem dX2_someoneWantsTooMuch_3 : decode cX2_someoneWantsTooMuch 3 = .ok (.aload_n 0, 1) := by decide +kernel
theorem dX2_someoneWantsTooMuch_4 : decode cX2_someoneWantsTooMuch 4 = .ok (.getfield 46, 3) := by decide +kernel
theorem dX2_someoneWantsTooMuch_7 : decode cX2_someoneWantsTooMuch 7 = .ok (.if_icmp .ge 29, 3) := by decide +kernel
theorem dX2_someoneWantsTooMuch_10 : decode cX2_someoneWantsTooMuch 10 = .ok (.aload_n 0, 1) := by decide +kernel
theorem dX2_someoneWantsTooMuch_11 : decode cX2_someoneWantsTooMuch 11 = .ok (.getfield 25, 3) := by decide +kernel
theorem dX2_someoneWantsTooMuch_14 : decode cX2_someoneWantsTooMuch 14 = .ok (.iload_n 1, 1) := by decide +kernel
theorem dX2_someoneWantsTooMuch_15 : decode cX2_someoneWantsTooMuch 15 = .ok (.aaload, 1) := by decide +kernel
theorem dX2_someoneWantsTooMuch_16 : decode cX2_someoneWantsTooMuch 16 = .ok (.getfield 84, 3) := by decide +kernel
theorem dX2_someoneWantsTooMuch_19 : decode cX2_someoneWantsTooMuch 19 = .ok (.aload_n 0, 1) := by decide +kernel
theorem dX2_someoneWantsTooMuch_20 : decode cX2_someoneWantsTooMuch 20 = .ok (.getfield 18, 3) := by decide +kernel
theorem dX2_someoneWantsTooMuch_23 : decode cX2_someoneWantsTooMuch 23 = .ok (.iconst 0, 1) := by decide +kernel
theorem dX2_someoneWantsTooMuch_24 : decode cX2_someoneWantsTooMuch 24 = .ok (.iaload, 1) := by decide +kernel
theorem dX2_someoneWantsTooMuch_25 : decode cX2_someoneWantsTooMuch 25 = .ok (.if_icmp .le 5, 3) := by decide +kernel
theorem dX2_someoneWantsTooMuch_28 : decode cX2_someoneWantsTooMuch 28 = .ok (.iconst 1, 1) := by decide +kernel
theorem dX2_someoneWantsTooMuch_29 : decode cX2_someoneWantsTooMuch 29 = .ok (.ireturn, 1) := by decide +kernel
theorem dX2_someoneWantsTooMuch_30 : decode cX2_someoneWantsTooMuch 30 = .ok (.iinc 1 1, 3) := by decide +kernel
theorem dX2_someoneWantsTooMuch_33 : decode cX2_someoneWantsTooMuch 33 = .ok (.goto (-31), 3) := by decide +kernel
theorem dX2_someoneWantsTooMuch_36 : decode cX2_someoneWantsTooMuch 36 = .ok (.iconst 0, 1) := by decide +kernel
theorem dX2_someoneWantsTooMuch_37 : decode cX2_someoneWantsTooMuch 37 = .ok (.ireturn, 1) := by decide +kernel
theorem dX2_allWaited_0 : decode cX2_allWaited 0 = .ok (.iconst 0, 1) := by decide +kernel
theorem dX2_allWaited_1 : decode cX2_allWaited 1 = .ok (.istore_n 1, 1) := by decide +kernel
theorem dX2_allWaited_2 : decode cX2_allWaited 2 = .ok (.iconst 0, 1) := by decide +kernel
theorem dX2_allWaited_3 : decode cX2_allWaited 3 = .ok (.istore_n 2, 1) := by decide +kernel
theorem dX2_allWaited_4 : decode cX2_allWaited 4 = .ok (.iload_n 2, 1) := by decide +kernel
theorem dX2_allWaited_5 : decode cX2_allWaited 5 = .ok (.aload_n 0, 1) := by decide +kernel
theorem dX2_allWaited_6 : decode cX2_allWaited 6 = .ok (.getfield 46, 3) := by decide +kernel
theorem dX2_allWaited_9 : decode cX2_allWaited 9 = .ok (.if_icmp .ge 21, 3) := by decide +kernel
theorem dX2_allWaited_12 : decode cX2_allWaited 12 = .ok (.iload_n 1, 1) := by decide +kernel
theorem dX2_allWaited_13 : decode cX2_allWaited 13 = .ok (.aload_n 0, 1) := by decide +kernel
theorem dX2_allWaited_14 : decode cX2_allWaited 14 = .ok (.getfield 25, 3) := by decide +kernel
theorem dX2_allWaited_17 : decode cX2_allWaited 17 = .ok (.iload_n 2, 1) := by decide +kernel
theorem dX2_allWaited_18 : decode cX2_allWaited 18 = .ok (.aaload, 1) := by decide +kernel
theorem dX2_allWaited_19 : decode cX2_allWaited 19 = .ok (.invokevirtual 192, 3) := by decide +kernel
theorem dX2_allWaited_22 : decode cX2_allWaited 22 = .ok (.iadd, 1) := by decide +kernel
theorem dX2_allWaited_23 : decode cX2_allWaited 23 = .ok (.istore_n 1, 1) := by decide +kernel
theorem dX2_allWaited_24 : decode cX2_allWaited 24 = .ok (.iinc 2 1, 3) := by decide +kernel
theorem dX2_allWaited_27 : decode cX2_allWaited 27 = .ok (.goto (-23), 3) := by decide +kernel
theorem dX2_allWaited_30 : decode cX2_allWaited 30 = .ok (.iload_n 1, 1) := by decide +kernel
theorem dX2_allWaited_31 : decode cX2_allWaited 31 = .ok (.ireturn, 1) := by decide +kernel
theorem dX2_cupsLeft_0 : decode cX2_cupsLeft 0 = .ok (.iconst 0, 1) := by decide +kernel
theorem dX2_cupsLeft_1 : decode cX2_cupsLeft 1 = .ok (.istore_n 1, 1) := by decide +kernel
theorem dX2_cupsLeft_2 : decode cX2_cupsLeft 2 = .ok (.iconst 0, 1) := by decide +kernel
theorem dX2_cupsLeft_3 : decode cX2_cupsLeft 3 = .ok (.istore_n 2, 1) := by decide +kernel
theorem dX2_cupsLeft_4 : decode cX2_cupsLeft 4 = .ok (.iload_n 2, 1) := by decide +kernel
theorem dX2_cupsLeft_5 : decode cX2_cupsLeft 5 = .ok (.aload_n 0, 1) := by decide +kernel
theorem dX2_cupsLeft_6 : decode cX2_cupsLeft 6 = .ok (.invokevirtual 98, 3) := by decide +kernel
theorem dX2_cupsLeft_9 : decode cX2_cupsLeft 9 = .ok (.if_icmp .ge 21, 3) := by decide +kernel
theorem dX2_cupsLeft_12 : decode cX2_cupsLeft 12 = .ok (.iload_n 1, 1) := by decide +kernel
theorem dX2_cupsLeft_13 : decode cX2_cupsLeft 13 = .ok (.aload_n 0, 1) := by decide +kernel
theorem dX2_cupsLeft_14 : decode cX2_cupsLeft 14 = .ok (.getfield 32, 3) := by decide +kernel
theorem dX2_cupsLeft_17 : decode cX2_cupsLeft 17 = .ok (.iload_n 2, 1) := by decide +kernel
theorem dX2_cupsLeft_18 : decode cX2_cupsLeft 18 = .ok (.aaload, 1) := by decide +kernel
theorem dX2_cupsLeft_19 : decode cX2_cupsLeft 19 = .ok (.getfield 134, 3) := by decide +kernel
theorem dX2_cupsLeft_22 : decode cX2_cupsLeft 22 = .ok (.iadd, 1) := by decide +kernel
theorem dX2_cupsLeft_23 : decode cX2_cupsLeft 23 = .ok (.istore_n 1, 1) := by decide +kernel
theorem dX2_cupsLeft_24 : decode cX2_cupsLeft 24 = .ok (.iinc 2 1, 3) := by decide +kernel
theorem dX2_cupsLeft_27 : decode cX2_cupsLeft 27 = .ok (.goto (-23), 3) := by decide +kernel
theorem dX2_cupsLeft_30 : decode cX2_cupsLeft 30 = .ok (.iload_n 1, 1) := by decide +kernel
theorem dX2_cupsLeft_31 : decode cX2_cupsLeft 31 = .ok (.ireturn, 1) := by decide +kernel
theorem dX2_highestLevel_0 : decode cX2_highestLevel 0 = .ok (.iconst 0, 1) := by decide +kernel
theorem dX2_highestLevel_1 : decode cX2_highestLevel 1 = .ok (.istore_n 1, 1) := by decide +kernel
theorem dX2_highestLevel_2 : decode cX2_highestLevel 2 = .ok (.iconst 0, 1) := by decide +kernel
theorem dX2_highestLevel_3 : decode cX2_highestLevel 3 = .ok (.istore_n 2, 1) := by decide +kernel
theorem dX2_highestLevel_4 : decode cX2_highestLevel 4 = .ok (.iload_n 2, 1) := by decide +kernel
theorem dX2_highestLevel_5 : decode cX2_highestLevel 5 = .ok (.aload_n 0, 1) := by decide +kernel
theorem dX2_highestLevel_6 : decode cX2_highestLevel 6 = .ok (.invokevirtual 98, 3) := by decide +kernel
theorem dX2_highestLevel_9 : decode cX2_highestLevel 9 = .ok (.if_icmp .ge 23, 3) := by decide +kernel
theorem dX2_highestLevel_12 : decode cX2_highestLevel 12 = .ok (.iload_n 1, 1) := by decide +kernel
theorem dX2_highestLevel_13 : decode cX2_highestLevel 13 = .ok (.aload_n 0, 1) := by decide +kernel
theorem dX2_highestLevel_14 : decode cX2_highestLevel 14 = .ok (.getfield 32, 3) := by decide +kernel
theorem dX2_highestLevel_17 : decode cX2_highestLevel 17 = .ok (.iload_n 2, 1) := by decide +kernel
theorem dX2_highestLevel_18 : decode cX2_highestLevel 18 = .ok (.aaload, 1) := by decide +kernel
theorem dX2_highestLevel_19 : decode cX2_highestLevel 19 = .ok (.getfield 134, 3) := by decide +kernel
theorem dX2_highestLevel_22 : decode cX2_highestLevel 22 = .ok (.invokestatic 183, 3) := by decide +kernel
theorem dX2_highestLevel_25 : decode cX2_highestLevel 25 = .ok (.istore_n 1, 1) := by decide +kernel
theorem dX2_highestLevel_26 : decode cX2_highestLevel 26 = .ok (.iinc 2 1, 3) := by decide +kernel
theorem dX2_highestLevel_29 : decode cX2_highestLevel 29 = .ok (.goto (-25), 3) := by decide +kernel
theorem dX2_highestLevel_32 : decode cX2_highestLevel 32 = .ok (.iload_n 1, 1) := by decide +kernel
theorem dX2_highestLevel_33 : decode cX2_highestLevel 33 = .ok (.ireturn, 1) := by decide +kernel
theorem dX2_cost_0 : decode cX2_cost 0 = .ok (.aload_n 0, 1) := by decide +kernel
theorem dX2_cost_1 : decode cX2_cost 1 = .ok (.invokevirtual 195, 3) := by decide +kernel
theorem dX2_cost_4 : decode cX2_cost 4 = .ok (.aload_n 0, 1) := by decide +kernel
theorem dX2_cost_5 : decode cX2_cost 5 = .ok (.getfield 18, 3) := by decide +kernel
theorem dX2_cost_8 : decode cX2_cost 8 = .ok (.iconst 4, 1) := by decide +kernel
theorem dX2_cost_9 : decode cX2_cost 9 = .ok (.iaload, 1) := by decide +kernel
theorem dX2_cost_10 : decode cX2_cost 10 = .ok (.imul, 1) := by decide +kernel
theorem dX2_cost_11 : decode cX2_cost 11 = .ok (.aload_n 0, 1) := by decide +kernel
theorem dX2_cost_12 : decode cX2_cost 12 = .ok (.invokevirtual 198, 3) := by decide +kernel
theorem dX2_cost_15 : decode cX2_cost 15 = .ok (.aload_n 0, 1) := by decide +kernel
theorem dX2_cost_16 : decode cX2_cost 16 = .ok (.getfield 18, 3) := by decide +kernel
theorem dX2_cost_19 : decode cX2_cost 19 = .ok (.iconst 5, 1) := by decide +kernel
theorem dX2_cost_20 : decode cX2_cost 20 = .ok (.iaload, 1) := by decide +kernel
theorem dX2_cost_21 : decode cX2_cost 21 = .ok (.imul, 1) := by decide +kernel
theorem dX2_cost_22 : decode cX2_cost 22 = .ok (.iadd, 1) := by decide +kernel
theorem dX2_cost_23 : decode cX2_cost 23 = .ok (.aload_n 0, 1) := by decide +kernel
theorem dX2_cost_24 : decode cX2_cost 24 = .ok (.iconst 3, 1) := by decide +kernel
theorem dX2_cost_25 : decode cX2_cost 25 = .ok (.invokevirtual 90, 3) := by decide +kernel
theorem dX2_cost_28 : decode cX2_cost 28 = .ok (.bipush 9, 2) := by decide +kernel
theorem dX2_cost_30 : decode cX2_cost 30 = .ok (.imul, 1) := by decide +kernel
theorem dX2_cost_31 : decode cX2_cost 31 = .ok (.iadd, 1) := by decide +kernel
theorem dX2_cost_32 : decode cX2_cost 32 = .ok (.ireturn, 1) := by decide +kernel
theorem dX3_init_0 : decode cX3_init 0 = .ok (.aload_n 0, 1) := by decide +kernel
theorem dX3_init_1 : decode cX3_init 1 = .ok (.invokespecial 3, 3) := by decide +kernel
theorem dX3_init_4 : decode cX3_init 4 = .ok (.return_, 1) := by decide +kernel
theorem dX3_copy_0 : decode cX3_copy 0 = .ok (.aload_n 0, 1) := by decide +kernel
theorem dX3_copy_1 : decode cX3_copy 1 = .ok (.aload_n 1, 1) := by decide +kernel
theorem dX3_copy_2 : decode cX3_copy 2 = .ok (.getfield 9, 3) := by decide +kernel
theorem dX3_copy_5 : decode cX3_copy 5 = .ok (.putfield 9, 3) := by decide +kernel
theorem dX3_copy_8 : decode cX3_copy 8 = .ok (.aload_n 0, 1) := by decide +kernel
theorem dX3_copy_9 : decode cX3_copy 9 = .ok (.aload_n 1, 1) := by decide +kernel
theorem dX3_copy_10 : decode cX3_copy 10 = .ok (.getfield 15, 3) := by decide +kernel
theorem dX3_copy_13 : decode cX3_copy 13 = .ok (.putfield 15, 3) := by decide +kernel
theorem dX3_copy_16 : decode cX3_copy 16 = .ok (.aload_n 0, 1) := by decide +kernel
theorem dX3_copy_17 : decode cX3_copy 17 = .ok (.aload_n 1, 1) := by decide +kernel
theorem dX3_copy_18 : decode cX3_copy 18 = .ok (.getfield 18, 3) := by decide +kernel
theorem dX3_copy_21 : decode cX3_copy 21 = .ok (.putfield 18, 3) := by decide +kernel
theorem dX3_copy_24 : decode cX3_copy 24 = .ok (.aload_n 0, 1) := by decide +kernel
theorem dX3_copy_25 : decode cX3_copy 25 = .ok (.aload_n 1, 1) := by decide +kernel
theorem dX3_copy_26 : decode cX3_copy 26 = .ok (.getfield 21, 3) := by decide +kernel
theorem dX3_copy_29 : decode cX3_copy 29 = .ok (.putfield 21, 3) := by decide +kernel
theorem dX3_copy_32 : decode cX3_copy 32 = .ok (.aload_n 0, 1) := by decide +kernel
theorem dX3_copy_33 : decode cX3_copy 33 = .ok (.aload_n 1, 1) := by decide +kernel
theorem dX3_copy_34 : decode cX3_copy 34 = .ok (.getfield 24, 3) := by decide +kernel
theorem dX3_copy_37 : decode cX3_copy 37 = .ok (.putfield 24, 3) := by decide +kernel
theorem dX3_copy_40 : decode cX3_copy 40 = .ok (.return_, 1) := by decide +kernel
theorem dX3_begin_0 : decode cX3_begin 0 = .ok (.aload_n 0, 1) := by decide +kernel
theorem dX3_begin_1 : decode cX3_begin 1 = .ok (.iconst 0, 1) := by decide +kernel
theorem dX3_begin_2 : decode cX3_begin 2 = .ok (.putfield 9, 3) := by decide +kernel
theorem dX3_begin_5 : decode cX3_begin 5 = .ok (.aload_n 0, 1) := by decide +kernel
theorem dX3_begin_6 : decode cX3_begin 6 = .ok (.iconst 0, 1) := by decide +kernel
theorem dX3_begin_7 : decode cX3_begin 7 = .ok (.putfield 15, 3) := by decide +kernel
theorem dX3_begin_10 : decode cX3_begin 10 = .ok (.aload_n 0, 1) := by decide +kernel
theorem dX3_begin_11 : decode cX3_begin 11 = .ok (.iconst 0, 1) := by decide +kernel
theorem dX3_begin_12 : decode cX3_begin 12 = .ok (.putfield 18, 3) := by decide +kernel
theorem dX3_begin_15 : decode cX3_begin 15 = .ok (.aload_n 0, 1) := by decide +kernel
theorem dX3_begin_16 : decode cX3_begin 16 = .ok (.iconst 0, 1) := by decide +kernel
theorem dX3_begin_17 : decode cX3_begin 17 = .ok (.putfield 21, 3) := by decide +kernel
theorem dX3_begin_20 : decode cX3_begin 20 = .ok (.return_, 1) := by decide +kernel
theorem dX3_isFree_0 : decode cX3_isFree 0 = .ok (.aload_n 0, 1) := by decide +kernel
theorem dX3_isFree_1 : decode cX3_isFree 1 = .ok (.getfield 21, 3) := by decide +kernel
theorem dX3_isFree_4 : decode cX3_isFree 4 = .ok (.iload_n 1, 1) := by decide +kernel
theorem dX3_isFree_5 : decode cX3_isFree 5 = .ok (.if_icmp .gt 7, 3) := by decide +kernel
theorem dX3_isFree_8 : decode cX3_isFree 8 = .ok (.iconst 1, 1) := by decide +kernel
theorem dX3_isFree_9 : decode cX3_isFree 9 = .ok (.goto 4, 3) := by decide +kernel
theorem dX3_isFree_12 : decode cX3_isFree 12 = .ok (.iconst 0, 1) := by decide +kernel
theorem dX3_isFree_13 : decode cX3_isFree 13 = .ok (.ireturn, 1) := by decide +kernel
theorem dX3_isReady_0 : decode cX3_isReady 0 = .ok (.aload_n 0, 1) := by decide +kernel
theorem dX3_isReady_1 : decode cX3_isReady 1 = .ok (.getfield 21, 3) := by decide +kernel
theorem dX3_isReady_4 : decode cX3_isReady 4 = .ok (.iload_n 1, 1) := by decide +kernel
theorem dX3_isReady_5 : decode cX3_isReady 5 = .ok (.if_icmp .gt 24, 3) := by decide +kernel
theorem dX3_isReady_8 : decode cX3_isReady 8 = .ok (.aload_n 0, 1) := by decide +kernel
theorem dX3_isReady_9 : decode cX3_isReady 9 = .ok (.getfield 15, 3) := by decide +kernel
theorem dX3_isReady_12 : decode cX3_isReady 12 = .ok (.bipush 8, 2) := by decide +kernel
theorem dX3_isReady_14 : decode cX3_isReady 14 = .ok (.if_icmp .lt 15, 3) := by decide +kernel
theorem dX3_isReady_17 : decode cX3_isReady 17 = .ok (.aload_n 0, 1) := by decide +kernel
theorem dX3_isReady_18 : decode cX3_isReady 18 = .ok (.getfield 9, 3) := by decide +kernel
theorem dX3_isReady_21 : decode cX3_isReady 21 = .ok (.iload_n 2, 1) := by decide +kernel
theorem dX3_isReady_22 : decode cX3_isReady 22 = .ok (.if_icmp .lt 7, 3) := by decide +kernel
theorem dX3_isReady_25 : decode cX3_isReady 25 = .ok (.iconst 1, 1) := by decide +kernel
theorem dX3_isReady_26 : decode cX3_isReady 26 = .ok (.goto 4, 3) := by decide +kernel
theorem dX3_isReady_29 : decode cX3_isReady 29 = .ok (.iconst 0, 1) := by decide +kernel
theorem dX3_isReady_30 : decode cX3_isReady 30 = .ok (.ireturn, 1) := by decide +kernel
theorem dX3_fill_0 : decode cX3_fill 0 = .ok (.iload_n 1, 1) := by decide +kernel
theorem dX3_fill_1 : decode cX3_fill 1 = .ok (.ifCond .le 23, 3) := by decide +kernel
theorem dX3_fill_4 : decode cX3_fill 4 = .ok (.aload_n 0, 1) := by decide +kernel
theorem dX3_fill_5 : decode cX3_fill 5 = .ok (.aload_n 0, 1) := by decide +kernel
theorem dX3_fill_6 : decode cX3_fill 6 = .ok (.getfield 9, 3) := by decide +kernel
theorem dX3_fill_9 : decode cX3_fill 9 = .ok (.aload_n 0, 1) := by decide +kernel
theorem dX3_fill_10 : decode cX3_fill 10 = .ok (.getfield 15, 3) := by decide +kernel
theorem dX3_fill_13 : decode cX3_fill 13 = .ok (.imul, 1) := by decide +kernel
theorem dX3_fill_14 : decode cX3_fill 14 = .ok (.iload_n 1, 1) := by decide +kernel
theorem dX3_fill_15 : decode cX3_fill 15 = .ok (.idiv, 1) := by decide +kernel
theorem dX3_fill_16 : decode cX3_fill 16 = .ok (.putfield 15, 3) := by decide +kernel
theorem dX3_fill_19 : decode cX3_fill 19 = .ok (.aload_n 0, 1) := by decide +kernel
theorem dX3_fill_20 : decode cX3_fill 20 = .ok (.iload_n 1, 1) := by decide +kernel
theorem dX3_fill_21 : decode cX3_fill 21 = .ok (.putfield 9, 3) := by decide +kernel
theorem dX3_fill_24 : decode cX3_fill 24 = .ok (.return_, 1) := by decide +kernel
theorem dX3_putOn_0 : decode cX3_putOn 0 = .ok (.aload_n 0, 1) := by decide +kernel
theorem dX3_putOn_1 : decode cX3_putOn 1 = .ok (.iload_n 2, 1) := by decide +kernel
theorem dX3_putOn_2 : decode cX3_putOn 2 = .ok (.aload_n 0, 1) := by decide +kernel
theorem dX3_putOn_3 : decode cX3_putOn 3 = .ok (.getfield 9, 3) := by decide +kernel
theorem dX3_putOn_6 : decode cX3_putOn 6 = .ok (.bipush 10, 2) := by decide +kernel
theorem dX3_putOn_8 : decode cX3_putOn 8 = .ok (.aload_n 0, 1) := by decide +kernel
theorem dX3_putOn_9 : decode cX3_putOn 9 = .ok (.getfield 15, 3) := by decide +kernel
theorem dX3_putOn_12 : decode cX3_putOn 12 = .ok (.isub, 1) := by decide +kernel
theorem dX3_putOn_13 : decode cX3_putOn 13 = .ok (.iload_n 3, 1) := by decide +kernel
theorem dX3_putOn_14 : decode cX3_putOn 14 = .ok (.invokestatic 27, 3) := by decide +kernel
theorem dX3_putOn_17 : decode cX3_putOn 17 = .ok (.iadd, 1) := by decide +kernel
theorem dX3_putOn_18 : decode cX3_putOn 18 = .ok (.putfield 21, 3) := by decide +kernel
theorem dX3_putOn_21 : decode cX3_putOn 21 = .ok (.aload_n 0, 1) := by decide +kernel
theorem dX3_putOn_22 : decode cX3_putOn 22 = .ok (.bipush 10, 2) := by decide +kernel
theorem dX3_putOn_24 : decode cX3_putOn 24 = .ok (.putfield 15, 3) := by decide +kernel
theorem dX3_putOn_27 : decode cX3_putOn 27 = .ok (.aload_n 0, 1) := by decide +kernel
theorem dX3_putOn_28 : decode cX3_putOn 28 = .ok (.iconst 0, 1) := by decide +kernel
theorem dX3_putOn_29 : decode cX3_putOn 29 = .ok (.putfield 18, 3) := by decide +kernel
theorem dX3_putOn_32 : decode cX3_putOn 32 = .ok (.aload_n 0, 1) := by decide +kernel
theorem dX3_putOn_33 : decode cX3_putOn 33 = .ok (.iload_n 1, 1) := by decide +kernel
theorem dX3_putOn_34 : decode cX3_putOn 34 = .ok (.putfield 24, 3) := by decide +kernel
theorem dX3_putOn_37 : decode cX3_putOn 37 = .ok (.return_, 1) := by decide +kernel
theorem dX3_cool_0 : decode cX3_cool 0 = .ok (.aload_n 0, 1) := by decide +kernel
theorem dX3_cool_1 : decode cX3_cool 1 = .ok (.dup, 1) := by decide +kernel
theorem dX3_cool_2 : decode cX3_cool 2 = .ok (.getfield 18, 3) := by decide +kernel
theorem dX3_cool_5 : decode cX3_cool 5 = .ok (.iconst 1, 1) := by decide +kernel
theorem dX3_cool_6 : decode cX3_cool 6 = .ok (.iadd, 1) := by decide +kernel
theorem dX3_cool_7 : decode cX3_cool 7 = .ok (.putfield 18, 3) := by decide +kernel
theorem dX3_cool_10 : decode cX3_cool 10 = .ok (.aload_n 0, 1) := by decide +kernel
theorem dX3_cool_11 : decode cX3_cool 11 = .ok (.getfield 18, 3) := by decide +kernel
theorem dX3_cool_14 : decode cX3_cool 14 = .ok (.iload_n 1, 1) := by decide +kernel
theorem dX3_cool_15 : decode cX3_cool 15 = .ok (.if_icmp .lt 22, 3) := by decide +kernel
theorem dX3_cool_18 : decode cX3_cool 18 = .ok (.aload_n 0, 1) := by decide +kernel
theorem dX3_cool_19 : decode cX3_cool 19 = .ok (.iconst 0, 1) := by decide +kernel
theorem dX3_cool_20 : decode cX3_cool 20 = .ok (.aload_n 0, 1) := by decide +kernel
theorem dX3_cool_21 : decode cX3_cool 21 = .ok (.getfield 15, 3) := by decide +kernel
theorem dX3_cool_24 : decode cX3_cool 24 = .ok (.iconst 1, 1) := by decide +kernel
theorem dX3_cool_25 : decode cX3_cool 25 = .ok (.isub, 1) := by decide +kernel
theorem dX3_cool_26 : decode cX3_cool 26 = .ok (.invokestatic 31, 3) := by decide +kernel
theorem dX3_cool_29 : decode cX3_cool 29 = .ok (.putfield 15, 3) := by decide +kernel
theorem dX3_cool_32 : decode cX3_cool 32 = .ok (.aload_n 0, 1) := by decide +kernel
theorem dX3_cool_33 : decode cX3_cool 33 = .ok (.iconst 0, 1) := by decide +kernel
theorem dX3_cool_34 : decode cX3_cool 34 = .ok (.putfield 18, 3) := by decide +kernel
theorem dX3_cool_37 : decode cX3_cool 37 = .ok (.return_, 1) := by decide +kernel
theorem dX3_tell_0 : decode cX3_tell 0 = .ok (.iload_n 1, 1) := by decide +kernel
theorem dX3_tell_1 : decode cX3_tell 1 = .ok (.tableswitch 42 0 2 #[27, 32, 37], 27) := by decide +kernel
theorem dX3_tell_28 : decode cX3_tell 28 = .ok (.aload_n 0, 1) := by decide +kernel
theorem dX3_tell_29 : decode cX3_tell 29 = .ok (.getfield 9, 3) := by decide +kernel
theorem dX3_tell_32 : decode cX3_tell 32 = .ok (.ireturn, 1) := by decide +kernel
theorem dX3_tell_33 : decode cX3_tell 33 = .ok (.aload_n 0, 1) := by decide +kernel
theorem dX3_tell_34 : decode cX3_tell 34 = .ok (.getfield 15, 3) := by decide +kernel
theorem dX3_tell_37 : decode cX3_tell 37 = .ok (.ireturn, 1) := by decide +kernel
theorem dX3_tell_38 : decode cX3_tell 38 = .ok (.aload_n 0, 1) := by decide +kernel
theorem dX3_tell_39 : decode cX3_tell 39 = .ok (.getfield 18, 3) := by decide +kernel
theorem dX3_tell_42 : decode cX3_tell 42 = .ok (.ireturn, 1) := by decide +kernel
theorem dX3_tell_43 : decode cX3_tell 43 = .ok (.iconst 0, 1) := by decide +kernel
theorem dX3_tell_44 : decode cX3_tell 44 = .ok (.aload_n 0, 1) := by decide +kernel
theorem dX3_tell_45 : decode cX3_tell 45 = .ok (.getfield 21, 3) := by decide +kernel
theorem dX3_tell_48 : decode cX3_tell 48 = .ok (.iload_n 2, 1) := by decide +kernel
theorem dX3_tell_49 : decode cX3_tell 49 = .ok (.isub, 1) := by decide +kernel
theorem dX3_tell_50 : decode cX3_tell 50 = .ok (.invokestatic 31, 3) := by decide +kernel
theorem dX3_tell_53 : decode cX3_tell 53 = .ok (.ireturn, 1) := by decide +kernel
theorem dX4_init_0 : decode cX4_init 0 = .ok (.aload_n 0, 1) := by decide +kernel
theorem dX4_init_1 : decode cX4_init 1 = .ok (.invokespecial 3, 3) := by decide +kernel
theorem dX4_init_4 : decode cX4_init 4 = .ok (.aload_n 0, 1) := by decide +kernel
theorem dX4_init_5 : decode cX4_init 5 = .ok (.bipush 96, 2) := by decide +kernel
theorem dX4_init_7 : decode cX4_init 7 = .ok (.newarray .int, 2) := by decide +kernel
theorem dX4_init_9 : decode cX4_init 9 = .ok (.putfield 9, 3) := by decide +kernel
theorem dX4_init_12 : decode cX4_init 12 = .ok (.return_, 1) := by decide +kernel
theorem dX4_append_0 : decode cX4_append 0 = .ok (.aload_n 0, 1) := by decide +kernel
theorem dX4_append_1 : decode cX4_append 1 = .ok (.getfield 15, 3) := by decide +kernel
theorem dX4_append_4 : decode cX4_append 4 = .ok (.aload_n 0, 1) := by decide +kernel
theorem dX4_append_5 : decode cX4_append 5 = .ok (.getfield 9, 3) := by decide +kernel
theorem dX4_append_8 : decode cX4_append 8 = .ok (.arraylength, 1) := by decide +kernel
theorem dX4_append_9 : decode cX4_append 9 = .ok (.if_icmp .ge 23, 3) := by decide +kernel
theorem dX4_append_12 : decode cX4_append 12 = .ok (.aload_n 0, 1) := by decide +kernel
theorem dX4_append_13 : decode cX4_append 13 = .ok (.getfield 9, 3) := by decide +kernel
theorem dX4_append_16 : decode cX4_append 16 = .ok (.aload_n 0, 1) := by decide +kernel
theorem dX4_append_17 : decode cX4_append 17 = .ok (.getfield 15, 3) := by decide +kernel
theorem dX4_append_20 : decode cX4_append 20 = .ok (.iload_n 1, 1) := by decide +kernel
theorem dX4_append_21 : decode cX4_append 21 = .ok (.iastore, 1) := by decide +kernel
theorem dX4_append_22 : decode cX4_append 22 = .ok (.aload_n 0, 1) := by decide +kernel
theorem dX4_append_23 : decode cX4_append 23 = .ok (.dup, 1) := by decide +kernel
theorem dX4_append_24 : decode cX4_append 24 = .ok (.getfield 15, 3) := by decide +kernel
theorem dX4_append_27 : decode cX4_append 27 = .ok (.iconst 1, 1) := by decide +kernel
theorem dX4_append_28 : decode cX4_append 28 = .ok (.iadd, 1) := by decide +kernel
theorem dX4_append_29 : decode cX4_append 29 = .ok (.putfield 15, 3) := by decide +kernel
theorem dX4_append_32 : decode cX4_append 32 = .ok (.aload_n 0, 1) := by decide +kernel
theorem dX4_append_33 : decode cX4_append 33 = .ok (.getfield 15, 3) := by decide +kernel
theorem dX4_append_36 : decode cX4_append 36 = .ok (.ireturn, 1) := by decide +kernel
theorem dX4_read_0 : decode cX4_read 0 = .ok (.aload_n 0, 1) := by decide +kernel
theorem dX4_read_1 : decode cX4_read 1 = .ok (.iconst 0, 1) := by decide +kernel
theorem dX4_read_2 : decode cX4_read 2 = .ok (.putfield 19, 3) := by decide +kernel
theorem dX4_read_5 : decode cX4_read 5 = .ok (.iconst 0, 1) := by decide +kernel
theorem dX4_read_6 : decode cX4_read 6 = .ok (.istore_n 2, 1) := by decide +kernel
theorem dX4_read_7 : decode cX4_read 7 = .ok (.iload_n 2, 1) := by decide +kernel
theorem dX4_read_8 : decode cX4_read 8 = .ok (.bipush 96, 2) := by decide +kernel
theorem dX4_read_10 : decode cX4_read 10 = .ok (.if_icmp .ge 40, 3) := by decide +kernel
theorem dX4_read_13 : decode cX4_read 13 = .ok (.iload_n 2, 1) := by decide +kernel
theorem dX4_read_14 : decode cX4_read 14 = .ok (.ifCond .eq 14, 3) := by decide +kernel
theorem dX4_read_17 : decode cX4_read 17 = .ok (.aload_n 0, 1) := by decide +kernel
theorem dX4_read_18 : decode cX4_read 18 = .ok (.getfield 19, 3) := by decide +kernel
theorem dX4_read_21 : decode cX4_read 21 = .ok (.aload_n 0, 1) := by decide +kernel
theorem dX4_read_22 : decode cX4_read 22 = .ok (.getfield 15, 3) := by decide +kernel
theorem dX4_read_25 : decode cX4_read 25 = .ok (.if_icmp .ge 25, 3) := by decide +kernel
theorem dX4_read_28 : decode cX4_read 28 = .ok (.aload_n 0, 1) := by decide +kernel
theorem dX4_read_29 : decode cX4_read 29 = .ok (.invokevirtual 22, 3) := by decide +kernel
theorem dX4_read_32 : decode cX4_read 32 = .ok (.ifCond .ne 12, 3) := by decide +kernel
theorem dX4_read_35 : decode cX4_read 35 = .ok (.sipush (-1000), 3) := by decide +kernel
theorem dX4_read_38 : decode cX4_read 38 = .ok (.aload_n 0, 1) := by decide +kernel
theorem dX4_read_39 : decode cX4_read 39 = .ok (.getfield 19, 3) := by decide +kernel
theorem dX4_read_42 : decode cX4_read 42 = .ok (.isub, 1) := by decide +kernel
theorem dX4_read_43 : decode cX4_read 43 = .ok (.ireturn, 1) := by decide +kernel
theorem dX4_read_44 : decode cX4_read 44 = .ok (.iinc 2 1, 3) := by decide +kernel
theorem dX4_read_47 : decode cX4_read 47 = .ok (.goto (-40), 3) := by decide +kernel
theorem dX4_read_50 : decode cX4_read 50 = .ok (.aload_n 0, 1) := by decide +kernel
theorem dX4_read_51 : decode cX4_read 51 = .ok (.iconst 0, 1) := by decide +kernel
theorem dX4_read_52 : decode cX4_read 52 = .ok (.putfield 19, 3) := by decide +kernel
theorem dX4_read_55 : decode cX4_read 55 = .ok (.iconst 0, 1) := by decide +kernel
theorem dX4_read_56 : decode cX4_read 56 = .ok (.istore_n 2, 1) := by decide +kernel
theorem dX4_read_57 : decode cX4_read 57 = .ok (.aload_n 0, 1) := by decide +kernel
theorem dX4_read_58 : decode cX4_read 58 = .ok (.getfield 19, 3) := by decide +kernel
theorem dX4_read_61 : decode cX4_read 61 = .ok (.aload_n 0, 1) := by decide +kernel
theorem dX4_read_62 : decode cX4_read 62 = .ok (.getfield 15, 3) := by decide +kernel
theorem dX4_read_65 : decode cX4_read 65 = .ok (.if_icmp .ge 42, 3) := by decide +kernel
theorem dX4_read_68 : decode cX4_read 68 = .ok (.iload_n 2, 1) := by decide +kernel
theorem dX4_read_69 : decode cX4_read 69 = .ok (.bipush 96, 2) := by decide +kernel
theorem dX4_read_71 : decode cX4_read 71 = .ok (.if_icmp .ge 36, 3) := by decide +kernel
theorem dX4_read_74 : decode cX4_read 74 = .ok (.aload_n 0, 1) := by decide +kernel
theorem dX4_read_75 : decode cX4_read 75 = .ok (.getfield 19, 3) := by decide +kernel
theorem dX4_read_78 : decode cX4_read 78 = .ok (.istore_n 3, 1) := by decide +kernel
theorem dX4_read_79 : decode cX4_read 79 = .ok (.aload_n 0, 1) := by decide +kernel
theorem dX4_read_80 : decode cX4_read 80 = .ok (.invokevirtual 22, 3) := by decide +kernel
theorem dX4_read_83 : decode cX4_read 83 = .ok (.ifCond .eq 12, 3) := by decide +kernel
theorem dX4_read_86 : decode cX4_read 86 = .ok (.aload_n 0, 1) := by decide +kernel
theorem dX4_read_87 : decode cX4_read 87 = .ok (.aload_n 1, 1) := by decide +kernel
theorem dX4_read_88 : decode cX4_read 88 = .ok (.iload_n 3, 1) := by decide +kernel
theorem dX4_read_89 : decode cX4_read 89 = .ok (.invokevirtual 26, 3) := by decide +kernel
theorem dX4_read_92 : decode cX4_read 92 = .ok (.ifCond .ne 9, 3) := by decide +kernel
theorem dX4_read_95 : decode cX4_read 95 = .ok (.sipush (-2000), 3) := by decide +kernel
theorem dX4_read_98 : decode cX4_read 98 = .ok (.iload_n 3, 1) := by decide +kernel
theorem dX4_read_99 : decode cX4_read 99 = .ok (.isub, 1) := by decide +kernel
theorem dX4_read_100 : decode cX4_read 100 = .ok (.ireturn, 1) := by decide +kernel
theorem dX4_read_101 : decode cX4_read 101 = .ok (.iinc 2 1, 3) := by decide +kernel
theorem dX4_read_104 : decode cX4_read 104 = .ok (.goto (-47), 3) := by decide +kernel
theorem dX4_read_107 : decode cX4_read 107 = .ok (.iload_n 2, 1) := by decide +kernel
theorem dX4_read_108 : decode cX4_read 108 = .ok (.ireturn, 1) := by decide +kernel
theorem dX4_skipStatement_0 : decode cX4_skipStatement 0 = .ok (.aload_n 0, 1) := by decide +kernel
theorem dX4_skipStatement_1 : decode cX4_skipStatement 1 = .ok (.bipush 115, 2) := by decide +kernel
theorem dX4_skipStatement_3 : decode cX4_skipStatement 3 = .ok (.invokevirtual 30, 3) := by decide +kernel
theorem dX4_skipStatement_6 : decode cX4_skipStatement 6 = .ok (.ifCond .eq 60, 3) := by decide +kernel
theorem dX4_skipStatement_9 : decode cX4_skipStatement 9 = .ok (.aload_n 0, 1) := by decide +kernel
theorem dX4_skipStatement_10 : decode cX4_skipStatement 10 = .ok (.iconst 1, 1) := by decide +kernel
theorem dX4_skipStatement_11 : decode cX4_skipStatement 11 = .ok (.invokevirtual 34, 3) := by decide +kernel
theorem dX4_skipStatement_14 : decode cX4_skipStatement 14 = .ok (.ifCond .eq 50, 3) := by decide +kernel
theorem dX4_skipStatement_17 : decode cX4_skipStatement 17 = .ok (.aload_n 0, 1) := by decide +kernel
theorem dX4_skipStatement_18 : decode cX4_skipStatement 18 = .ok (.bipush 61, 2) := by decide +kernel
theorem dX4_skipStatement_20 : decode cX4_skipStatement 20 = .ok (.invokevirtual 30, 3) := by decide +kernel
theorem dX4_skipStatement_23 : decode cX4_skipStatement 23 = .ok (.ifCond .eq 41, 3) := by decide +kernel
theorem dX4_skipStatement_26 : decode cX4_skipStatement 26 = .ok (.aload_n 0, 1) := by decide +kernel
theorem dX4_skipStatement_27 : decode cX4_skipStatement 27 = .ok (.iconst 1, 1) := by decide +kernel
theorem dX4_skipStatement_28 : decode cX4_skipStatement 28 = .ok (.invokevirtual 34, 3) := by decide +kernel
theorem dX4_skipStatement_31 : decode cX4_skipStatement 31 = .ok (.ifCond .eq 33, 3) := by decide +kernel
theorem dX4_skipStatement_34 : decode cX4_skipStatement 34 = .ok (.aload_n 0, 1) := by decide +kernel
theorem dX4_skipStatement_35 : decode cX4_skipStatement 35 = .ok (.bipush 59, 2) := by decide +kernel
theorem dX4_skipStatement_37 : decode cX4_skipStatement 37 = .ok (.invokevirtual 30, 3) := by decide +kernel
theorem dX4_skipStatement_40 : decode cX4_skipStatement 40 = .ok (.ifCond .ne 20, 3) := by decide +kernel
theorem dX4_skipStatement_43 : decode cX4_skipStatement 43 = .ok (.aload_n 0, 1) := by decide +kernel
theorem dX4_skipStatement_44 : decode cX4_skipStatement 44 = .ok (.iconst 1, 1) := by decide +kernel
theorem dX4_skipStatement_45 : decode cX4_skipStatement 45 = .ok (.invokevirtual 34, 3) := by decide +kernel
theorem dX4_skipStatement_48 : decode cX4_skipStatement 48 = .ok (.ifCond .eq 16, 3) := by decide +kernel
theorem dX4_skipStatement_51 : decode cX4_skipStatement 51 = .ok (.aload_n 0, 1) := by decide +kernel
theorem dX4_skipStatement_52 : decode cX4_skipStatement 52 = .ok (.bipush 59, 2) := by decide +kernel
theorem dX4_skipStatement_54 : decode cX4_skipStatement 54 = .ok (.invokevirtual 30, 3) := by decide +kernel
theorem dX4_skipStatement_57 : decode cX4_skipStatement 57 = .ok (.ifCond .eq 7, 3) := by decide +kernel
theorem dX4_skipStatement_60 : decode cX4_skipStatement 60 = .ok (.iconst 1, 1) := by decide +kernel
theorem dX4_skipStatement_61 : decode cX4_skipStatement 61 = .ok (.goto 4, 3) := by decide +kernel
theorem dX4_skipStatement_64 : decode cX4_skipStatement 64 = .ok (.iconst 0, 1) := by decide +kernel
theorem dX4_skipStatement_65 : decode cX4_skipStatement 65 = .ok (.ireturn, 1) := by decide +kernel
theorem dX4_skipStatement_66 : decode cX4_skipStatement 66 = .ok (.aload_n 0, 1) := by decide +kernel
theorem dX4_skipStatement_67 : decode cX4_skipStatement 67 = .ok (.bipush 99, 2) := by decide +kernel
theorem dX4_skipStatement_69 : decode cX4_skipStatement 69 = .ok (.invokevirtual 30, 3) := by decide +kernel
theorem dX4_skipStatement_72 : decode cX4_skipStatement 72 = .ok (.ifCond .eq 27, 3) := by decide +kernel
theorem dX4_skipStatement_75 : decode cX4_skipStatement 75 = .ok (.aload_n 0, 1) := by decide +kernel
theorem dX4_skipStatement_76 : decode cX4_skipStatement 76 = .ok (.bipush 8, 2) := by decide +kernel
theorem dX4_skipStatement_78 : decode cX4_skipStatement 78 = .ok (.invokevirtual 34, 3) := by decide +kernel
theorem dX4_skipStatement_81 : decode cX4_skipStatement 81 = .ok (.ifCond .eq 16, 3) := by decide +kernel
theorem dX4_skipStatement_84 : decode cX4_skipStatement 84 = .ok (.aload_n 0, 1) := by decide +kernel
theorem dX4_skipStatement_85 : decode cX4_skipStatement 85 = .ok (.bipush 59, 2) := by decide +kernel
theorem dX4_skipStatement_87 : decode cX4_skipStatement 87 = .ok (.invokevirtual 30, 3) := by decide +kernel
theorem dX4_skipStatement_90 : decode cX4_skipStatement 90 = .ok (.ifCond .eq 7, 3) := by decide +kernel
theorem dX4_skipStatement_93 : decode cX4_skipStatement 93 = .ok (.iconst 1, 1) := by decide +kernel
theorem dX4_skipStatement_94 : decode cX4_skipStatement 94 = .ok (.goto 4, 3) := by decide +kernel
theorem dX4_skipStatement_97 : decode cX4_skipStatement 97 = .ok (.iconst 0, 1) := by decide +kernel
theorem dX4_skipStatement_98 : decode cX4_skipStatement 98 = .ok (.ireturn, 1) := by decide +kernel
theorem dX4_skipStatement_99 : decode cX4_skipStatement 99 = .ok (.aload_n 0, 1) := by decide +kernel
theorem dX4_skipStatement_100 : decode cX4_skipStatement 100 = .ok (.bipush 107, 2) := by decide +kernel
theorem dX4_skipStatement_102 : decode cX4_skipStatement 102 = .ok (.invokevirtual 30, 3) := by decide +kernel
theorem dX4_skipStatement_105 : decode cX4_skipStatement 105 = .ok (.ifCond .eq 24, 3) := by decide +kernel
theorem dX4_skipStatement_108 : decode cX4_skipStatement 108 = .ok (.aload_n 0, 1) := by decide +kernel
theorem dX4_skipStatement_109 : decode cX4_skipStatement 109 = .ok (.iconst 3, 1) := by decide +kernel
theorem dX4_skipStatement_110 : decode cX4_skipStatement 110 = .ok (.invokevirtual 34, 3) := by decide +kernel
theorem dX4_skipStatement_113 : decode cX4_skipStatement 113 = .ok (.ifCond .eq 16, 3) := by decide +kernel
theorem dX4_skipStatement_116 : decode cX4_skipStatement 116 = .ok (.aload_n 0, 1) := by decide +kernel
theorem dX4_skipStatement_117 : decode cX4_skipStatement 117 = .ok (.bipush 59, 2) := by decide +kernel
theorem dX4_skipStatement_119 : decode cX4_skipStatement 119 = .ok (.invokevirtual 30, 3) := by decide +kernel
theorem dX4_skipStatement_122 : decode cX4_skipStatement 122 = .ok (.ifCond .eq 7, 3) := by decide +kernel
theorem dX4_skipStatement_125 : decode cX4_skipStatement 125 = .ok (.iconst 1, 1) := by decide +kernel
theorem dX4_skipStatement_126 : decode cX4_skipStatement 126 = .ok (.goto 4, 3) := by decide +kernel
theorem dX4_skipStatement_129 : decode cX4_skipStatement 129 = .ok (.iconst 0, 1) := by decide +kernel
theorem dX4_skipStatement_130 : decode cX4_skipStatement 130 = .ok (.ireturn, 1) := by decide +kernel
theorem dX4_skip_0 : decode cX4_skip 0 = .ok (.aload_n 0, 1) := by decide +kernel
theorem dX4_skip_1 : decode cX4_skip 1 = .ok (.aload_n 0, 1) := by decide +kernel
theorem dX4_skip_2 : decode cX4_skip 2 = .ok (.getfield 19, 3) := by decide +kernel
theorem dX4_skip_5 : decode cX4_skip 5 = .ok (.invokevirtual 38, 3) := by decide +kernel
theorem dX4_skip_8 : decode cX4_skip 8 = .ok (.iload_n 1, 1) := by decide +kernel
theorem dX4_skip_9 : decode cX4_skip 9 = .ok (.if_icmp .ne 7, 3) := by decide +kernel
theorem dX4_skip_12 : decode cX4_skip 12 = .ok (.iconst 1, 1) := by decide +kernel
theorem dX4_skip_13 : decode cX4_skip 13 = .ok (.goto 4, 3) := by decide +kernel
theorem dX4_skip_16 : decode cX4_skip 16 = .ok (.iconst 0, 1) := by decide +kernel
theorem dX4_skip_17 : decode cX4_skip 17 = .ok (.istore_n 2, 1) := by decide +kernel
theorem dX4_skip_18 : decode cX4_skip 18 = .ok (.aload_n 0, 1) := by decide +kernel
theorem dX4_skip_19 : decode cX4_skip 19 = .ok (.dup, 1) := by decide +kernel
theorem dX4_skip_20 : decode cX4_skip 20 = .ok (.getfield 19, 3) := by decide +kernel
theorem dX4_skip_23 : decode cX4_skip 23 = .ok (.iload_n 2, 1) := by decide +kernel
theorem dX4_skip_24 : decode cX4_skip 24 = .ok (.ifCond .eq 7, 3) := by decide +kernel
theorem dX4_skip_27 : decode cX4_skip 27 = .ok (.iconst 1, 1) := by decide +kernel
theorem dX4_skip_28 : decode cX4_skip 28 = .ok (.goto 4, 3) := by decide +kernel
theorem dX4_skip_31 : decode cX4_skip 31 = .ok (.iconst 0, 1) := by decide +kernel
theorem dX4_skip_32 : decode cX4_skip 32 = .ok (.iadd, 1) := by decide +kernel
theorem dX4_skip_33 : decode cX4_skip 33 = .ok (.putfield 19, 3) := by decide +kernel
theorem dX4_skip_36 : decode cX4_skip 36 = .ok (.iload_n 2, 1) := by decide +kernel
theorem dX4_skip_37 : decode cX4_skip 37 = .ok (.ireturn, 1) := by decide +kernel
theorem dX4_skipDigits_0 : decode cX4_skipDigits 0 = .ok (.iconst 0, 1) := by decide +kernel
theorem dX4_skipDigits_1 : decode cX4_skipDigits 1 = .ok (.istore_n 2, 1) := by decide +kernel
theorem dX4_skipDigits_2 : decode cX4_skipDigits 2 = .ok (.iload_n 2, 1) := by decide +kernel
theorem dX4_skipDigits_3 : decode cX4_skipDigits 3 = .ok (.iload_n 1, 1) := by decide +kernel
theorem dX4_skipDigits_4 : decode cX4_skipDigits 4 = .ok (.if_icmp .ge 47, 3) := by decide +kernel
theorem dX4_skipDigits_7 : decode cX4_skipDigits 7 = .ok (.aload_n 0, 1) := by decide +kernel
theorem dX4_skipDigits_8 : decode cX4_skipDigits 8 = .ok (.aload_n 0, 1) := by decide +kernel
theorem dX4_skipDigits_9 : decode cX4_skipDigits 9 = .ok (.getfield 19, 3) := by decide +kernel
theorem dX4_skipDigits_12 : decode cX4_skipDigits 12 = .ok (.invokevirtual 38, 3) := by decide +kernel
theorem dX4_skipDigits_15 : decode cX4_skipDigits 15 = .ok (.bipush 48, 2) := by decide +kernel
theorem dX4_skipDigits_17 : decode cX4_skipDigits 17 = .ok (.if_icmp .lt 16, 3) := by decide +kernel
theorem dX4_skipDigits_20 : decode cX4_skipDigits 20 = .ok (.aload_n 0, 1) := by decide +kernel
theorem dX4_skipDigits_21 : decode cX4_skipDigits 21 = .ok (.aload_n 0, 1) := by decide +kernel
theorem dX4_skipDigits_22 : decode cX4_skipDigits 22 = .ok (.getfield 19, 3) := by decide +kernel
theorem dX4_skipDigits_25 : decode cX4_skipDigits 25 = .ok (.invokevirtual 38, 3) := by decide +kernel
theorem dX4_skipDigits_28 : decode cX4_skipDigits 28 = .ok (.bipush 57, 2) := by decide +kernel
theorem dX4_skipDigits_30 : decode cX4_skipDigits 30 = .ok (.if_icmp .le 5, 3) := by decide +kernel
theorem dX4_skipDigits_33 : decode cX4_skipDigits 33 = .ok (.iconst 0, 1) := by decide +kernel
theorem dX4_skipDigits_34 : decode cX4_skipDigits 34 = .ok (.ireturn, 1) := by decide +kernel
theorem dX4_skipDigits_35 : decode cX4_skipDigits 35 = .ok (.aload_n 0, 1) := by decide +kernel
theorem dX4_skipDigits_36 : decode cX4_skipDigits 36 = .ok (.dup, 1) := by decide +kernel
theorem dX4_skipDigits_37 : decode cX4_skipDigits 37 = .ok (.getfield 19, 3) := by decide +kernel
theorem dX4_skipDigits_40 : decode cX4_skipDigits 40 = .ok (.iconst 1, 1) := by decide +kernel
theorem dX4_skipDigits_41 : decode cX4_skipDigits 41 = .ok (.iadd, 1) := by decide +kernel
theorem dX4_skipDigits_42 : decode cX4_skipDigits 42 = .ok (.putfield 19, 3) := by decide +kernel
theorem dX4_skipDigits_45 : decode cX4_skipDigits 45 = .ok (.iinc 2 1, 3) := by decide +kernel
theorem dX4_skipDigits_48 : decode cX4_skipDigits 48 = .ok (.goto (-46), 3) := by decide +kernel
theorem dX4_skipDigits_51 : decode cX4_skipDigits 51 = .ok (.iconst 1, 1) := by decide +kernel
theorem dX4_skipDigits_52 : decode cX4_skipDigits 52 = .ok (.ireturn, 1) := by decide +kernel
theorem dX4_carryOut_0 : decode cX4_carryOut 0 = .ok (.aload_n 0, 1) := by decide +kernel
theorem dX4_carryOut_1 : decode cX4_carryOut 1 = .ok (.iload_n 2, 1) := by decide +kernel
theorem dX4_carryOut_2 : decode cX4_carryOut 2 = .ok (.invokevirtual 38, 3) := by decide +kernel
theorem dX4_carryOut_5 : decode cX4_carryOut 5 = .ok (.bipush 115, 2) := by decide +kernel
theorem dX4_carryOut_7 : decode cX4_carryOut 7 = .ok (.if_icmp .ne 62, 3) := by decide +kernel
theorem dX4_carryOut_10 : decode cX4_carryOut 10 = .ok (.aload_n 0, 1) := by decide +kernel
theorem dX4_carryOut_11 : decode cX4_carryOut 11 = .ok (.iload_n 2, 1) := by decide +kernel
theorem dX4_carryOut_12 : decode cX4_carryOut 12 = .ok (.iconst 1, 1) := by decide +kernel
theorem dX4_carryOut_13 : decode cX4_carryOut 13 = .ok (.iadd, 1) := by decide +kernel
theorem dX4_carryOut_14 : decode cX4_carryOut 14 = .ok (.iconst 1, 1) := by decide +kernel
theorem dX4_carryOut_15 : decode cX4_carryOut 15 = .ok (.invokevirtual 42, 3) := by decide +kernel
theorem dX4_carryOut_18 : decode cX4_carryOut 18 = .ok (.istore_n 3, 1) := by decide +kernel
theorem dX4_carryOut_19 : decode cX4_carryOut 19 = .ok (.aload_n 0, 1) := by decide +kernel
theorem dX4_carryOut_20 : decode cX4_carryOut 20 = .ok (.iload_n 2, 1) := by decide +kernel
theorem dX4_carryOut_21 : decode cX4_carryOut 21 = .ok (.iconst 3, 1) := by decide +kernel
theorem dX4_carryOut_22 : decode cX4_carryOut 22 = .ok (.iadd, 1) := by decide +kernel
theorem dX4_carryOut_23 : decode cX4_carryOut 23 = .ok (.aload_n 0, 1) := by decide +kernel
theorem dX4_carryOut_24 : decode cX4_carryOut 24 = .ok (.getfield 19, 3) := by decide +kernel
theorem dX4_carryOut_27 : decode cX4_carryOut 27 = .ok (.iload_n 2, 1) := by decide +kernel
theorem dX4_carryOut_28 : decode cX4_carryOut 28 = .ok (.isub, 1) := by decide +kernel
theorem dX4_carryOut_29 : decode cX4_carryOut 29 = .ok (.iconst 4, 1) := by decide +kernel
theorem dX4_carryOut_30 : decode cX4_carryOut 30 = .ok (.isub, 1) := by decide +kernel
theorem dX4_carryOut_31 : decode cX4_carryOut 31 = .ok (.invokevirtual 42, 3) := by decide +kernel
theorem dX4_carryOut_34 : decode cX4_carryOut 34 = .ok (.istore 4, 2) := by decide +kernel
theorem dX4_carryOut_36 : decode cX4_carryOut 36 = .ok (.aload_n 1, 1) := by decide +kernel
theorem dX4_carryOut_37 : decode cX4_carryOut 37 = .ok (.iload_n 3, 1) := by decide +kernel
theorem dX4_carryOut_38 : decode cX4_carryOut 38 = .ok (.iload 4, 2) := by decide +kernel
theorem dX4_carryOut_40 : decode cX4_carryOut 40 = .ok (.invokevirtual 46, 3) := by decide +kernel
theorem dX4_carryOut_43 : decode cX4_carryOut 43 = .ok (.ifCond .ne 7, 3) := by decide +kernel
theorem dX4_carryOut_46 : decode cX4_carryOut 46 = .ok (.iconst 1, 1) := by decide +kernel
theorem dX4_carryOut_47 : decode cX4_carryOut 47 = .ok (.goto 4, 3) := by decide +kernel
theorem dX4_carryOut_50 : decode cX4_carryOut 50 = .ok (.iconst 0, 1) := by decide +kernel
theorem dX4_carryOut_51 : decode cX4_carryOut 51 = .ok (.istore 5, 2) := by decide +kernel
theorem dX4_carryOut_53 : decode cX4_carryOut 53 = .ok (.iload 5, 2) := by decide +kernel
theorem dX4_carryOut_55 : decode cX4_carryOut 55 = .ok (.ifCond .eq 11, 3) := by decide +kernel
theorem dX4_carryOut_58 : decode cX4_carryOut 58 = .ok (.aload_n 1, 1) := by decide +kernel
theorem dX4_carryOut_59 : decode cX4_carryOut 59 = .ok (.iload_n 3, 1) := by decide +kernel
theorem dX4_carryOut_60 : decode cX4_carryOut 60 = .ok (.iload 4, 2) := by decide +kernel
theorem dX4_carryOut_62 : decode cX4_carryOut 62 = .ok (.invokevirtual 51, 3) := by decide +kernel
theorem dX4_carryOut_65 : decode cX4_carryOut 65 = .ok (.pop, 1) := by decide +kernel
theorem dX4_carryOut_66 : decode cX4_carryOut 66 = .ok (.iload 5, 2) := by decide +kernel
theorem dX4_carryOut_68 : decode cX4_carryOut 68 = .ok (.ireturn, 1) := by decide +kernel
theorem dX4_carryOut_69 : decode cX4_carryOut 69 = .ok (.aload_n 0, 1) := by decide +kernel
theorem dX4_carryOut_70 : decode cX4_carryOut 70 = .ok (.iload_n 2, 1) := by decide +kernel
theorem dX4_carryOut_71 : decode cX4_carryOut 71 = .ok (.invokevirtual 38, 3) := by decide +kernel
theorem dX4_carryOut_74 : decode cX4_carryOut 74 = .ok (.bipush 99, 2) := by decide +kernel
theorem dX4_carryOut_76 : decode cX4_carryOut 76 = .ok (.if_icmp .ne 50, 3) := by decide +kernel
theorem dX4_carryOut_79 : decode cX4_carryOut 79 = .ok (.aload_n 1, 1) := by decide +kernel
theorem dX4_carryOut_80 : decode cX4_carryOut 80 = .ok (.aload_n 0, 1) := by decide +kernel
theorem dX4_carryOut_81 : decode cX4_carryOut 81 = .ok (.iload_n 2, 1) := by decide +kernel
theorem dX4_carryOut_82 : decode cX4_carryOut 82 = .ok (.iconst 1, 1) := by decide +kernel
theorem dX4_carryOut_83 : decode cX4_carryOut 83 = .ok (.iadd, 1) := by decide +kernel
theorem dX4_carryOut_84 : decode cX4_carryOut 84 = .ok (.iconst 1, 1) := by decide +kernel
theorem dX4_carryOut_85 : decode cX4_carryOut 85 = .ok (.invokevirtual 42, 3) := by decide +kernel
end
section
theorem dX4_carryOut_88 : decode cX4_carryOut 88 = .ok (.aload_n 0, 1) := by decide +kernel
theorem dX4_carryOut_89 : decode cX4_carryOut 89 = .ok (.iload_n 2, 1) := by decide +kernel
theorem dX4_carryOut_90 : decode cX4_carryOut 90 = .ok (.iconst 2, 1) := by decide +kernel
theorem dX4_carryOut_91 : decode cX4_carryOut 91 = .ok (.iadd, 1) := by decide +kernel
theorem dX4_carryOut_92 : decode cX4_carryOut 92 = .ok (.iconst 1, 1) := by decide +kernel
theorem dX4_carryOut_93 : decode cX4_carryOut 93 = .ok (.invokevirtual 42, 3) := by decide +kernel
theorem dX4_carryOut_96 : decode cX4_carryOut 96 = .ok (.aload_n 0, 1) := by decide +kernel
theorem dX4_carryOut_97 : decode cX4_carryOut 97 = .ok (.iload_n 2, 1) := by decide +kernel
theorem dX4_carryOut_98 : decode cX4_carryOut 98 = .ok (.iconst 3, 1) := by decide +kernel
theorem dX4_carryOut_99 : decode cX4_carryOut 99 = .ok (.iadd, 1) := by decide +kernel
theorem dX4_carryOut_100 : decode cX4_carryOut 100 = .ok (.iconst 3, 1) := by decide +kernel
theorem dX4_carryOut_101 : decode cX4_carryOut 101 = .ok (.invokevirtual 42, 3) := by decide +kernel
theorem dX4_carryOut_104 : decode cX4_carryOut 104 = .ok (.aload_n 0, 1) := by decide +kernel
theorem dX4_carryOut_105 : decode cX4_carryOut 105 = .ok (.iload_n 2, 1) := by decide +kernel
theorem dX4_carryOut_106 : decode cX4_carryOut 106 = .ok (.bipush 6, 2) := by decide +kernel
theorem dX4_carryOut_108 : decode cX4_carryOut 108 = .ok (.iadd, 1) := by decide +kernel
theorem dX4_carryOut_109 : decode cX4_carryOut 109 = .ok (.iconst 1, 1) := by decide +kernel
theorem dX4_carryOut_110 : decode cX4_carryOut 110 = .ok (.invokevirtual 42, 3) := by decide +kernel
theorem dX4_carryOut_113 : decode cX4_carryOut 113 = .ok (.aload_n 0, 1) := by decide +kernel
theorem dX4_carryOut_114 : decode cX4_carryOut 114 = .ok (.iload_n 2, 1) := by decide +kernel
theorem dX4_carryOut_115 : decode cX4_carryOut 115 = .ok (.bipush 7, 2) := by decide +kernel
theorem dX4_carryOut_117 : decode cX4_carryOut 117 = .ok (.iadd, 1) := by decide +kernel
theorem dX4_carryOut_118 : decode cX4_carryOut 118 = .ok (.iconst 2, 1) := by decide +kernel
theorem dX4_carryOut_119 : decode cX4_carryOut 119 = .ok (.invokevirtual 42, 3) := by decide +kernel
theorem dX4_carryOut_122 : decode cX4_carryOut 122 = .ok (.invokevirtual 54, 3) := by decide +kernel
theorem dX4_carryOut_125 : decode cX4_carryOut 125 = .ok (.ireturn, 1) := by decide +kernel
theorem dX4_carryOut_126 : decode cX4_carryOut 126 = .ok (.aload_n 0, 1) := by decide +kernel
theorem dX4_carryOut_127 : decode cX4_carryOut 127 = .ok (.iload_n 2, 1) := by decide +kernel
theorem dX4_carryOut_128 : decode cX4_carryOut 128 = .ok (.iconst 1, 1) := by decide +kernel
theorem dX4_carryOut_129 : decode cX4_carryOut 129 = .ok (.iadd, 1) := by decide +kernel
theorem dX4_carryOut_130 : decode cX4_carryOut 130 = .ok (.iconst 1, 1) := by decide +kernel
theorem dX4_carryOut_131 : decode cX4_carryOut 131 = .ok (.invokevirtual 42, 3) := by decide +kernel
theorem dX4_carryOut_134 : decode cX4_carryOut 134 = .ok (.istore_n 3, 1) := by decide +kernel
theorem dX4_carryOut_135 : decode cX4_carryOut 135 = .ok (.aload_n 0, 1) := by decide +kernel
theorem dX4_carryOut_136 : decode cX4_carryOut 136 = .ok (.iload_n 2, 1) := by decide +kernel
theorem dX4_carryOut_137 : decode cX4_carryOut 137 = .ok (.iconst 2, 1) := by decide +kernel
theorem dX4_carryOut_138 : decode cX4_carryOut 138 = .ok (.iadd, 1) := by decide +kernel
theorem dX4_carryOut_139 : decode cX4_carryOut 139 = .ok (.iconst 1, 1) := by decide +kernel
theorem dX4_carryOut_140 : decode cX4_carryOut 140 = .ok (.invokevirtual 42, 3) := by decide +kernel
theorem dX4_carryOut_143 : decode cX4_carryOut 143 = .ok (.istore 4, 2) := by decide +kernel
theorem dX4_carryOut_145 : decode cX4_carryOut 145 = .ok (.aload_n 1, 1) := by decide +kernel
theorem dX4_carryOut_146 : decode cX4_carryOut 146 = .ok (.iload_n 3, 1) := by decide +kernel
theorem dX4_carryOut_147 : decode cX4_carryOut 147 = .ok (.invokevirtual 58, 3) := by decide +kernel
theorem dX4_carryOut_150 : decode cX4_carryOut 150 = .ok (.ifCond .eq 14, 3) := by decide +kernel
theorem dX4_carryOut_153 : decode cX4_carryOut 153 = .ok (.iload 4, 2) := by decide +kernel
theorem dX4_carryOut_155 : decode cX4_carryOut 155 = .ok (.bipush 7, 2) := by decide +kernel
theorem dX4_carryOut_157 : decode cX4_carryOut 157 = .ok (.if_icmp .ge 7, 3) := by decide +kernel
theorem dX4_carryOut_160 : decode cX4_carryOut 160 = .ok (.iconst 1, 1) := by decide +kernel
theorem dX4_carryOut_161 : decode cX4_carryOut 161 = .ok (.goto 4, 3) := by decide +kernel
theorem dX4_carryOut_164 : decode cX4_carryOut 164 = .ok (.iconst 0, 1) := by decide +kernel
theorem dX4_carryOut_165 : decode cX4_carryOut 165 = .ok (.istore 5, 2) := by decide +kernel
theorem dX4_carryOut_167 : decode cX4_carryOut 167 = .ok (.iload 5, 2) := by decide +kernel
theorem dX4_carryOut_169 : decode cX4_carryOut 169 = .ok (.ifCond .eq 22, 3) := by decide +kernel
theorem dX4_carryOut_172 : decode cX4_carryOut 172 = .ok (.aload_n 1, 1) := by decide +kernel
theorem dX4_carryOut_173 : decode cX4_carryOut 173 = .ok (.getfield 61, 3) := by decide +kernel
theorem dX4_carryOut_176 : decode cX4_carryOut 176 = .ok (.iload_n 3, 1) := by decide +kernel
theorem dX4_carryOut_177 : decode cX4_carryOut 177 = .ok (.aaload, 1) := by decide +kernel
theorem dX4_carryOut_178 : decode cX4_carryOut 178 = .ok (.iload 4, 2) := by decide +kernel
theorem dX4_carryOut_180 : decode cX4_carryOut 180 = .ok (.aload_n 0, 1) := by decide +kernel
theorem dX4_carryOut_181 : decode cX4_carryOut 181 = .ok (.iload_n 2, 1) := by decide +kernel
theorem dX4_carryOut_182 : decode cX4_carryOut 182 = .ok (.iconst 3, 1) := by decide +kernel
theorem dX4_carryOut_183 : decode cX4_carryOut 183 = .ok (.iadd, 1) := by decide +kernel
theorem dX4_carryOut_184 : decode cX4_carryOut 184 = .ok (.iconst 1, 1) := by decide +kernel
theorem dX4_carryOut_185 : decode cX4_carryOut 185 = .ok (.invokevirtual 42, 3) := by decide +kernel
theorem dX4_carryOut_188 : decode cX4_carryOut 188 = .ok (.invokevirtual 65, 3) := by decide +kernel
theorem dX4_carryOut_191 : decode cX4_carryOut 191 = .ok (.iload 5, 2) := by decide +kernel
theorem dX4_carryOut_193 : decode cX4_carryOut 193 = .ok (.ireturn, 1) := by decide +kernel
theorem dX4_number_0 : decode cX4_number 0 = .ok (.iconst 0, 1) := by decide +kernel
theorem dX4_number_1 : decode cX4_number 1 = .ok (.istore_n 3, 1) := by decide +kernel
theorem dX4_number_2 : decode cX4_number 2 = .ok (.iconst 0, 1) := by decide +kernel
theorem dX4_number_3 : decode cX4_number 3 = .ok (.istore 4, 2) := by decide +kernel
theorem dX4_number_5 : decode cX4_number 5 = .ok (.iload 4, 2) := by decide +kernel
theorem dX4_number_7 : decode cX4_number 7 = .ok (.iload_n 2, 1) := by decide +kernel
theorem dX4_number_8 : decode cX4_number 8 = .ok (.if_icmp .ge 26, 3) := by decide +kernel
theorem dX4_number_11 : decode cX4_number 11 = .ok (.iload_n 3, 1) := by decide +kernel
theorem dX4_number_12 : decode cX4_number 12 = .ok (.bipush 10, 2) := by decide +kernel
theorem dX4_number_14 : decode cX4_number 14 = .ok (.imul, 1) := by decide +kernel
theorem dX4_number_15 : decode cX4_number 15 = .ok (.aload_n 0, 1) := by decide +kernel
theorem dX4_number_16 : decode cX4_number 16 = .ok (.iload_n 1, 1) := by decide +kernel
theorem dX4_number_17 : decode cX4_number 17 = .ok (.iload 4, 2) := by decide +kernel
theorem dX4_number_19 : decode cX4_number 19 = .ok (.iadd, 1) := by decide +kernel
theorem dX4_number_20 : decode cX4_number 20 = .ok (.invokevirtual 38, 3) := by decide +kernel
theorem dX4_number_23 : decode cX4_number 23 = .ok (.iadd, 1) := by decide +kernel
theorem dX4_number_24 : decode cX4_number 24 = .ok (.bipush 48, 2) := by decide +kernel
theorem dX4_number_26 : decode cX4_number 26 = .ok (.isub, 1) := by decide +kernel
theorem dX4_number_27 : decode cX4_number 27 = .ok (.istore_n 3, 1) := by decide +kernel
theorem dX4_number_28 : decode cX4_number 28 = .ok (.iinc 4 1, 3) := by decide +kernel
theorem dX4_number_31 : decode cX4_number 31 = .ok (.goto (-26), 3) := by decide +kernel
theorem dX4_number_34 : decode cX4_number 34 = .ok (.iload_n 3, 1) := by decide +kernel
theorem dX4_number_35 : decode cX4_number 35 = .ok (.ireturn, 1) := by decide +kernel
theorem dX4_letterAt_0 : decode cX4_letterAt 0 = .ok (.iload_n 1, 1) := by decide +kernel
theorem dX4_letterAt_1 : decode cX4_letterAt 1 = .ok (.ifCond .lt 29, 3) := by decide +kernel
theorem dX4_letterAt_4 : decode cX4_letterAt 4 = .ok (.iload_n 1, 1) := by decide +kernel
theorem dX4_letterAt_5 : decode cX4_letterAt 5 = .ok (.aload_n 0, 1) := by decide +kernel
theorem dX4_letterAt_6 : decode cX4_letterAt 6 = .ok (.getfield 15, 3) := by decide +kernel
theorem dX4_letterAt_9 : decode cX4_letterAt 9 = .ok (.if_icmp .ge 21, 3) := by decide +kernel
theorem dX4_letterAt_12 : decode cX4_letterAt 12 = .ok (.iload_n 1, 1) := by decide +kernel
theorem dX4_letterAt_13 : decode cX4_letterAt 13 = .ok (.aload_n 0, 1) := by decide +kernel
theorem dX4_letterAt_14 : decode cX4_letterAt 14 = .ok (.getfield 9, 3) := by decide +kernel
theorem dX4_letterAt_17 : decode cX4_letterAt 17 = .ok (.arraylength, 1) := by decide +kernel
theorem dX4_letterAt_18 : decode cX4_letterAt 18 = .ok (.if_icmp .ge 12, 3) := by decide +kernel
theorem dX4_letterAt_21 : decode cX4_letterAt 21 = .ok (.aload_n 0, 1) := by decide +kernel
theorem dX4_letterAt_22 : decode cX4_letterAt 22 = .ok (.getfield 9, 3) := by decide +kernel
theorem dX4_letterAt_25 : decode cX4_letterAt 25 = .ok (.iload_n 1, 1) := by decide +kernel
theorem dX4_letterAt_26 : decode cX4_letterAt 26 = .ok (.iaload, 1) := by decide +kernel
theorem dX4_letterAt_27 : decode cX4_letterAt 27 = .ok (.goto 5, 3) := by decide +kernel
theorem dX4_letterAt_30 : decode cX4_letterAt 30 = .ok (.bipush (-9), 2) := by decide +kernel
theorem dX4_letterAt_32 : decode cX4_letterAt 32 = .ok (.ireturn, 1) := by decide +kernel
theorem dX5_init_0 : decode cX5_init 0 = .ok (.aload_n 0, 1) := by decide +kernel
theorem dX5_init_1 : decode cX5_init 1 = .ok (.invokespecial 3, 3) := by decide +kernel
theorem dX5_init_4 : decode cX5_init 4 = .ok (.aload_n 0, 1) := by decide +kernel
theorem dX5_init_5 : decode cX5_init 5 = .ok (.new 9, 3) := by decide +kernel
theorem dX5_init_8 : decode cX5_init 8 = .ok (.dup, 1) := by decide +kernel
theorem dX5_init_9 : decode cX5_init 9 = .ok (.invokespecial 11, 3) := by decide +kernel
theorem dX5_init_12 : decode cX5_init 12 = .ok (.putfield 12, 3) := by decide +kernel
theorem dX5_init_15 : decode cX5_init 15 = .ok (.return_, 1) := by decide +kernel
theorem dX5_take_0 : decode cX5_take 0 = .ok (.aload_n 0, 1) := by decide +kernel
theorem dX5_take_1 : decode cX5_take 1 = .ok (.getfield 12, 3) := by decide +kernel
theorem dX5_take_4 : decode cX5_take 4 = .ok (.aload_n 1, 1) := by decide +kernel
theorem dX5_take_5 : decode cX5_take 5 = .ok (.invokevirtual 18, 3) := by decide +kernel
theorem dX5_take_8 : decode cX5_take 8 = .ok (.return_, 1) := by decide +kernel
theorem dX5_restOfDay_0 : decode cX5_restOfDay 0 = .ok (.aload_n 0, 1) := by decide +kernel
theorem dX5_restOfDay_1 : decode cX5_restOfDay 1 = .ok (.getfield 12, 3) := by decide +kernel
theorem dX5_restOfDay_4 : decode cX5_restOfDay 4 = .ok (.iconst 0, 1) := by decide +kernel
theorem dX5_restOfDay_5 : decode cX5_restOfDay 5 = .ok (.putfield 22, 3) := by decide +kernel
theorem dX5_restOfDay_8 : decode cX5_restOfDay 8 = .ok (.aload_n 0, 1) := by decide +kernel
theorem dX5_restOfDay_9 : decode cX5_restOfDay 9 = .ok (.getfield 12, 3) := by decide +kernel
theorem dX5_restOfDay_12 : decode cX5_restOfDay 12 = .ok (.sipush 180, 3) := by decide +kernel
theorem dX5_restOfDay_15 : decode cX5_restOfDay 15 = .ok (.invokevirtual 26, 3) := by decide +kernel
theorem dX5_restOfDay_18 : decode cX5_restOfDay 18 = .ok (.iload_n 1, 1) := by decide +kernel
theorem dX5_restOfDay_19 : decode cX5_restOfDay 19 = .ok (.tableswitch 62 0 3 #[29, 37, 46, 54], 29) := by decide +kernel
theorem dX5_restOfDay_48 : decode cX5_restOfDay 48 = .ok (.aload_n 0, 1) := by decide +kernel
theorem dX5_restOfDay_49 : decode cX5_restOfDay 49 = .ok (.getfield 12, 3) := by decide +kernel
theorem dX5_restOfDay_52 : decode cX5_restOfDay 52 = .ok (.invokevirtual 30, 3) := by decide +kernel
theorem dX5_restOfDay_55 : decode cX5_restOfDay 55 = .ok (.ireturn, 1) := by decide +kernel
theorem dX5_restOfDay_56 : decode cX5_restOfDay 56 = .ok (.aload_n 0, 1) := by decide +kernel
theorem dX5_restOfDay_57 : decode cX5_restOfDay 57 = .ok (.getfield 12, 3) := by decide +kernel
theorem dX5_restOfDay_60 : decode cX5_restOfDay 60 = .ok (.iconst 3, 1) := by decide +kernel
theorem dX5_restOfDay_61 : decode cX5_restOfDay 61 = .ok (.invokevirtual 34, 3) := by decide +kernel
theorem dX5_restOfDay_64 : decode cX5_restOfDay 64 = .ok (.ireturn, 1) := by decide +kernel
theorem dX5_restOfDay_65 : decode cX5_restOfDay 65 = .ok (.aload_n 0, 1) := by decide +kernel
theorem dX5_restOfDay_66 : decode cX5_restOfDay 66 = .ok (.getfield 12, 3) := by decide +kernel
theorem dX5_restOfDay_69 : decode cX5_restOfDay 69 = .ok (.getfield 22, 3) := by decide +kernel
theorem dX5_restOfDay_72 : decode cX5_restOfDay 72 = .ok (.ireturn, 1) := by decide +kernel
theorem dX5_restOfDay_73 : decode cX5_restOfDay 73 = .ok (.aload_n 0, 1) := by decide +kernel
theorem dX5_restOfDay_74 : decode cX5_restOfDay 74 = .ok (.getfield 12, 3) := by decide +kernel
theorem dX5_restOfDay_77 : decode cX5_restOfDay 77 = .ok (.invokevirtual 38, 3) := by decide +kernel
theorem dX5_restOfDay_80 : decode cX5_restOfDay 80 = .ok (.ireturn, 1) := by decide +kernel
theorem dX5_restOfDay_81 : decode cX5_restOfDay 81 = .ok (.aload_n 0, 1) := by decide +kernel
theorem dX5_restOfDay_82 : decode cX5_restOfDay 82 = .ok (.getfield 12, 3) := by decide +kernel
theorem dX5_restOfDay_85 : decode cX5_restOfDay 85 = .ok (.invokevirtual 41, 3) := by decide +kernel
theorem dX5_restOfDay_88 : decode cX5_restOfDay 88 = .ok (.ireturn, 1) := by decide +kernel
theorem dX5_servedAt_0 : decode cX5_servedAt 0 = .ok (.aload_n 0, 1) := by decide +kernel
theorem dX5_servedAt_1 : decode cX5_servedAt 1 = .ok (.getfield 12, 3) := by decide +kernel
theorem dX5_servedAt_4 : decode cX5_servedAt 4 = .ok (.sipush 180, 3) := by decide +kernel
theorem dX5_servedAt_7 : decode cX5_servedAt 7 = .ok (.invokevirtual 26, 3) := by decide +kernel
theorem dX5_servedAt_10 : decode cX5_servedAt 10 = .ok (.aload_n 0, 1) := by decide +kernel
theorem dX5_servedAt_11 : decode cX5_servedAt 11 = .ok (.getfield 12, 3) := by decide +kernel
theorem dX5_servedAt_14 : decode cX5_servedAt 14 = .ok (.getfield 44, 3) := by decide +kernel
theorem dX5_servedAt_17 : decode cX5_servedAt 17 = .ok (.iload_n 1, 1) := by decide +kernel
theorem dX5_servedAt_18 : decode cX5_servedAt 18 = .ok (.aaload, 1) := by decide +kernel
theorem dX5_servedAt_19 : decode cX5_servedAt 19 = .ok (.astore_n 2, 1) := by decide +kernel
theorem dX5_servedAt_20 : decode cX5_servedAt 20 = .ok (.aload_n 2, 1) := by decide +kernel
theorem dX5_servedAt_21 : decode cX5_servedAt 21 = .ok (.getfield 48, 3) := by decide +kernel
theorem dX5_servedAt_24 : decode cX5_servedAt 24 = .ok (.iconst 2, 1) := by decide +kernel
theorem dX5_servedAt_25 : decode cX5_servedAt 25 = .ok (.if_icmp .ne 10, 3) := by decide +kernel
theorem dX5_servedAt_28 : decode cX5_servedAt 28 = .ok (.aload_n 2, 1) := by decide +kernel
theorem dX5_servedAt_29 : decode cX5_servedAt 29 = .ok (.getfield 53, 3) := by decide +kernel
theorem dX5_servedAt_32 : decode cX5_servedAt 32 = .ok (.goto 5, 3) := by decide +kernel
theorem dX5_servedAt_35 : decode cX5_servedAt 35 = .ok (.bipush (-9), 2) := by decide +kernel
theorem dX5_servedAt_37 : decode cX5_servedAt 37 = .ok (.ireturn, 1) := by decide +kernel
theorem dX5_costAnew_0 : decode cX5_costAnew 0 = .ok (.aload_n 0, 1) := by decide +kernel
theorem dX5_costAnew_1 : decode cX5_costAnew 1 = .ok (.getfield 12, 3) := by decide +kernel
theorem dX5_costAnew_4 : decode cX5_costAnew 4 = .ok (.invokevirtual 56, 3) := by decide +kernel
theorem dX5_costAnew_7 : decode cX5_costAnew 7 = .ok (.iconst 0, 1) := by decide +kernel
theorem dX5_costAnew_8 : decode cX5_costAnew 8 = .ok (.istore_n 1, 1) := by decide +kernel
theorem dX5_costAnew_9 : decode cX5_costAnew 9 = .ok (.iload_n 1, 1) := by decide +kernel
theorem dX5_costAnew_10 : decode cX5_costAnew 10 = .ok (.sipush 180, 3) := by decide +kernel
theorem dX5_costAnew_13 : decode cX5_costAnew 13 = .ok (.if_icmp .ge 26, 3) := by decide +kernel
theorem dX5_costAnew_16 : decode cX5_costAnew 16 = .ok (.aload_n 0, 1) := by decide +kernel
theorem dX5_costAnew_17 : decode cX5_costAnew 17 = .ok (.getfield 12, 3) := by decide +kernel
theorem dX5_costAnew_20 : decode cX5_costAnew 20 = .ok (.invokevirtual 59, 3) := by decide +kernel
theorem dX5_costAnew_23 : decode cX5_costAnew 23 = .ok (.ifCond .ne 16, 3) := by decide +kernel
theorem dX5_costAnew_26 : decode cX5_costAnew 26 = .ok (.aload_n 0, 1) := by decide +kernel
theorem dX5_costAnew_27 : decode cX5_costAnew 27 = .ok (.getfield 12, 3) := by decide +kernel
theorem dX5_costAnew_30 : decode cX5_costAnew 30 = .ok (.invokevirtual 63, 3) := by decide +kernel
theorem dX5_costAnew_33 : decode cX5_costAnew 33 = .ok (.iinc 1 1, 3) := by decide +kernel
theorem dX5_costAnew_36 : decode cX5_costAnew 36 = .ok (.goto (-27), 3) := by decide +kernel
theorem dX5_costAnew_39 : decode cX5_costAnew 39 = .ok (.aload_n 0, 1) := by decide +kernel
theorem dX5_costAnew_40 : decode cX5_costAnew 40 = .ok (.getfield 12, 3) := by decide +kernel
theorem dX5_costAnew_43 : decode cX5_costAnew 43 = .ok (.invokevirtual 41, 3) := by decide +kernel
theorem dX5_costAnew_46 : decode cX5_costAnew 46 = .ok (.ireturn, 1) := by decide +kernel
theorem dX5_bestKind_0 : decode cX5_bestKind 0 = .ok (.aload_n 0, 1) := by decide +kernel
theorem dX5_bestKind_1 : decode cX5_bestKind 1 = .ok (.getfield 12, 3) := by decide +kernel
theorem dX5_bestKind_4 : decode cX5_bestKind 4 = .ok (.getfield 44, 3) := by decide +kernel
theorem dX5_bestKind_7 : decode cX5_bestKind 7 = .ok (.iload_n 1, 1) := by decide +kernel
theorem dX5_bestKind_8 : decode cX5_bestKind 8 = .ok (.aaload, 1) := by decide +kernel
theorem dX5_bestKind_9 : decode cX5_bestKind 9 = .ok (.astore_n 3, 1) := by decide +kernel
theorem dX5_bestKind_10 : decode cX5_bestKind 10 = .ok (.aload_n 3, 1) := by decide +kernel
theorem dX5_bestKind_11 : decode cX5_bestKind 11 = .ok (.getfield 66, 3) := by decide +kernel
theorem dX5_bestKind_14 : decode cX5_bestKind 14 = .ok (.istore 4, 2) := by decide +kernel
theorem dX5_bestKind_16 : decode cX5_bestKind 16 = .ok (.iconst 0, 1) := by decide +kernel
theorem dX5_bestKind_17 : decode cX5_bestKind 17 = .ok (.istore 5, 2) := by decide +kernel
theorem dX5_bestKind_19 : decode cX5_bestKind 19 = .ok (.ldc 71, 2) := by decide +kernel
theorem dX5_bestKind_21 : decode cX5_bestKind 21 = .ok (.istore 6, 2) := by decide +kernel
theorem dX5_bestKind_23 : decode cX5_bestKind 23 = .ok (.iconst 0, 1) := by decide +kernel
theorem dX5_bestKind_24 : decode cX5_bestKind 24 = .ok (.istore 7, 2) := by decide +kernel
theorem dX5_bestKind_26 : decode cX5_bestKind 26 = .ok (.iload 7, 2) := by decide +kernel
theorem dX5_bestKind_28 : decode cX5_bestKind 28 = .ok (.bipush 7, 2) := by decide +kernel
theorem dX5_bestKind_30 : decode cX5_bestKind 30 = .ok (.if_icmp .ge 59, 3) := by decide +kernel
theorem dX5_bestKind_33 : decode cX5_bestKind 33 = .ok (.aload_n 3, 1) := by decide +kernel
theorem dX5_bestKind_34 : decode cX5_bestKind 34 = .ok (.iload 7, 2) := by decide +kernel
theorem dX5_bestKind_36 : decode cX5_bestKind 36 = .ok (.putfield 66, 3) := by decide +kernel
theorem dX5_bestKind_39 : decode cX5_bestKind 39 = .ok (.aload_n 0, 1) := by decide +kernel
theorem dX5_bestKind_40 : decode cX5_bestKind 40 = .ok (.invokevirtual 72, 3) := by decide +kernel
theorem dX5_bestKind_43 : decode cX5_bestKind 43 = .ok (.istore 8, 2) := by decide +kernel
theorem dX5_bestKind_45 : decode cX5_bestKind 45 = .ok (.iload_n 2, 1) := by decide +kernel
theorem dX5_bestKind_46 : decode cX5_bestKind 46 = .ok (.ifCond .eq 22, 3) := by decide +kernel
theorem dX5_bestKind_49 : decode cX5_bestKind 49 = .ok (.aload_n 3, 1) := by decide +kernel
theorem dX5_bestKind_50 : decode cX5_bestKind 50 = .ok (.getfield 48, 3) := by decide +kernel
theorem dX5_bestKind_53 : decode cX5_bestKind 53 = .ok (.iconst 2, 1) := by decide +kernel
theorem dX5_bestKind_54 : decode cX5_bestKind 54 = .ok (.if_icmp .ne 10, 3) := by decide +kernel
theorem dX5_bestKind_57 : decode cX5_bestKind 57 = .ok (.aload_n 3, 1) := by decide +kernel
theorem dX5_bestKind_58 : decode cX5_bestKind 58 = .ok (.invokevirtual 75, 3) := by decide +kernel
theorem dX5_bestKind_61 : decode cX5_bestKind 61 = .ok (.goto 5, 3) := by decide +kernel
theorem dX5_bestKind_64 : decode cX5_bestKind 64 = .ok (.bipush 99, 2) := by decide +kernel
theorem dX5_bestKind_66 : decode cX5_bestKind 66 = .ok (.istore 8, 2) := by decide +kernel
theorem dX5_bestKind_68 : decode cX5_bestKind 68 = .ok (.iload 8, 2) := by decide +kernel
theorem dX5_bestKind_70 : decode cX5_bestKind 70 = .ok (.iload 6, 2) := by decide +kernel
theorem dX5_bestKind_72 : decode cX5_bestKind 72 = .ok (.if_icmp .ge 11, 3) := by decide +kernel
theorem dX5_bestKind_75 : decode cX5_bestKind 75 = .ok (.iload 8, 2) := by decide +kernel
theorem dX5_bestKind_77 : decode cX5_bestKind 77 = .ok (.istore 6, 2) := by decide +kernel
theorem dX5_bestKind_79 : decode cX5_bestKind 79 = .ok (.iload 7, 2) := by decide +kernel
theorem dX5_bestKind_81 : decode cX5_bestKind 81 = .ok (.istore 5, 2) := by decide +kernel
theorem dX5_bestKind_83 : decode cX5_bestKind 83 = .ok (.iinc 7 1, 3) := by decide +kernel
theorem dX5_bestKind_86 : decode cX5_bestKind 86 = .ok (.goto (-60), 3) := by decide +kernel
theorem dX5_bestKind_89 : decode cX5_bestKind 89 = .ok (.aload_n 3, 1) := by decide +kernel
theorem dX5_bestKind_90 : decode cX5_bestKind 90 = .ok (.iload 4, 2) := by decide +kernel
theorem dX5_bestKind_92 : decode cX5_bestKind 92 = .ok (.putfield 66, 3) := by decide +kernel
theorem dX5_bestKind_95 : decode cX5_bestKind 95 = .ok (.iload 5, 2) := by decide +kernel
theorem dX5_bestKind_97 : decode cX5_bestKind 97 = .ok (.ireturn, 1) := by decide +kernel
theorem dX5_playRounds_0 : decode cX5_playRounds 0 = .ok (.iconst 1, 1) := by decide +kernel
theorem dX5_playRounds_1 : decode cX5_playRounds 1 = .ok (.istore_n 1, 1) := by decide +kernel
theorem dX5_playRounds_2 : decode cX5_playRounds 2 = .ok (.iconst 0, 1) := by decide +kernel
theorem dX5_playRounds_3 : decode cX5_playRounds 3 = .ok (.istore_n 2, 1) := by decide +kernel
theorem dX5_playRounds_4 : decode cX5_playRounds 4 = .ok (.iload_n 1, 1) := by decide +kernel
theorem dX5_playRounds_5 : decode cX5_playRounds 5 = .ok (.ifCond .eq 85, 3) := by decide +kernel
theorem dX5_playRounds_8 : decode cX5_playRounds 8 = .ok (.iload_n 2, 1) := by decide +kernel
theorem dX5_playRounds_9 : decode cX5_playRounds 9 = .ok (.bipush 20, 2) := by decide +kernel
theorem dX5_playRounds_11 : decode cX5_playRounds 11 = .ok (.if_icmp .ge 79, 3) := by decide +kernel
theorem dX5_playRounds_14 : decode cX5_playRounds 14 = .ok (.iconst 0, 1) := by decide +kernel
theorem dX5_playRounds_15 : decode cX5_playRounds 15 = .ok (.istore_n 1, 1) := by decide +kernel
theorem dX5_playRounds_16 : decode cX5_playRounds 16 = .ok (.iconst 0, 1) := by decide +kernel
theorem dX5_playRounds_17 : decode cX5_playRounds 17 = .ok (.istore_n 3, 1) := by decide +kernel
theorem dX5_playRounds_18 : decode cX5_playRounds 18 = .ok (.iload_n 3, 1) := by decide +kernel
theorem dX5_playRounds_19 : decode cX5_playRounds 19 = .ok (.aload_n 0, 1) := by decide +kernel
theorem dX5_playRounds_20 : decode cX5_playRounds 20 = .ok (.getfield 12, 3) := by decide +kernel
theorem dX5_playRounds_23 : decode cX5_playRounds 23 = .ok (.getfield 78, 3) := by decide +kernel
theorem dX5_playRounds_26 : decode cX5_playRounds 26 = .ok (.if_icmp .ge 58, 3) := by decide +kernel
theorem dX5_playRounds_29 : decode cX5_playRounds 29 = .ok (.aload_n 0, 1) := by decide +kernel
theorem dX5_playRounds_30 : decode cX5_playRounds 30 = .ok (.iload_n 3, 1) := by decide +kernel
theorem dX5_playRounds_31 : decode cX5_playRounds 31 = .ok (.iconst 1, 1) := by decide +kernel
theorem dX5_playRounds_32 : decode cX5_playRounds 32 = .ok (.invokevirtual 81, 3) := by decide +kernel
theorem dX5_playRounds_35 : decode cX5_playRounds 35 = .ok (.istore 4, 2) := by decide +kernel
theorem dX5_playRounds_37 : decode cX5_playRounds 37 = .ok (.iload_n 1, 1) := by decide +kernel
theorem dX5_playRounds_38 : decode cX5_playRounds 38 = .ok (.ifCond .ne 20, 3) := by decide +kernel
theorem dX5_playRounds_41 : decode cX5_playRounds 41 = .ok (.iload 4, 2) := by decide +kernel
theorem dX5_playRounds_43 : decode cX5_playRounds 43 = .ok (.aload_n 0, 1) := by decide +kernel
theorem dX5_playRounds_44 : decode cX5_playRounds 44 = .ok (.getfield 12, 3) := by decide +kernel
theorem dX5_playRounds_47 : decode cX5_playRounds 47 = .ok (.getfield 44, 3) := by decide +kernel
theorem dX5_playRounds_50 : decode cX5_playRounds 50 = .ok (.iload_n 3, 1) := by decide +kernel
theorem dX5_playRounds_51 : decode cX5_playRounds 51 = .ok (.aaload, 1) := by decide +kernel
theorem dX5_playRounds_52 : decode cX5_playRounds 52 = .ok (.getfield 66, 3) := by decide +kernel
theorem dX5_playRounds_55 : decode cX5_playRounds 55 = .ok (.if_icmp .eq 7, 3) := by decide +kernel
theorem dX5_playRounds_58 : decode cX5_playRounds 58 = .ok (.iconst 1, 1) := by decide +kernel
theorem dX5_playRounds_59 : decode cX5_playRounds 59 = .ok (.goto 4, 3) := by decide +kernel
theorem dX5_playRounds_62 : decode cX5_playRounds 62 = .ok (.iconst 0, 1) := by decide +kernel
theorem dX5_playRounds_63 : decode cX5_playRounds 63 = .ok (.istore_n 1, 1) := by decide +kernel
theorem dX5_playRounds_64 : decode cX5_playRounds 64 = .ok (.aload_n 0, 1) := by decide +kernel
theorem dX5_playRounds_65 : decode cX5_playRounds 65 = .ok (.getfield 12, 3) := by decide +kernel
theorem dX5_playRounds_68 : decode cX5_playRounds 68 = .ok (.getfield 44, 3) := by decide +kernel
theorem dX5_playRounds_71 : decode cX5_playRounds 71 = .ok (.iload_n 3, 1) := by decide +kernel
theorem dX5_playRounds_72 : decode cX5_playRounds 72 = .ok (.aaload, 1) := by decide +kernel
theorem dX5_playRounds_73 : decode cX5_playRounds 73 = .ok (.iload 4, 2) := by decide +kernel
theorem dX5_playRounds_75 : decode cX5_playRounds 75 = .ok (.putfield 66, 3) := by decide +kernel
theorem dX5_playRounds_78 : decode cX5_playRounds 78 = .ok (.iinc 3 1, 3) := by decide +kernel
theorem dX5_playRounds_81 : decode cX5_playRounds 81 = .ok (.goto (-63), 3) := by decide +kernel
theorem dX5_playRounds_84 : decode cX5_playRounds 84 = .ok (.iinc 2 1, 3) := by decide +kernel
theorem dX5_playRounds_87 : decode cX5_playRounds 87 = .ok (.goto (-83), 3) := by decide +kernel
theorem dX5_playRounds_90 : decode cX5_playRounds 90 = .ok (.iload_n 2, 1) := by decide +kernel
theorem dX5_playRounds_91 : decode cX5_playRounds 91 = .ok (.ireturn, 1) := by decide +kernel
theorem dX5_kindDigits_0 : decode cX5_kindDigits 0 = .ok (.iconst 0, 1) := by decide +kernel
theorem dX5_kindDigits_1 : decode cX5_kindDigits 1 = .ok (.istore_n 1, 1) := by decide +kernel
theorem dX5_kindDigits_2 : decode cX5_kindDigits 2 = .ok (.aload_n 0, 1) := by decide +kernel
theorem dX5_kindDigits_3 : decode cX5_kindDigits 3 = .ok (.getfield 12, 3) := by decide +kernel
theorem dX5_kindDigits_6 : decode cX5_kindDigits 6 = .ok (.getfield 78, 3) := by decide +kernel
theorem dX5_kindDigits_9 : decode cX5_kindDigits 9 = .ok (.iconst 1, 1) := by decide +kernel
theorem dX5_kindDigits_10 : decode cX5_kindDigits 10 = .ok (.isub, 1) := by decide +kernel
theorem dX5_kindDigits_11 : decode cX5_kindDigits 11 = .ok (.istore_n 2, 1) := by decide +kernel
theorem dX5_kindDigits_12 : decode cX5_kindDigits 12 = .ok (.iload_n 2, 1) := by decide +kernel
theorem dX5_kindDigits_13 : decode cX5_kindDigits 13 = .ok (.ifCond .lt 27, 3) := by decide +kernel
theorem dX5_kindDigits_16 : decode cX5_kindDigits 16 = .ok (.iload_n 1, 1) := by decide +kernel
theorem dX5_kindDigits_17 : decode cX5_kindDigits 17 = .ok (.bipush 10, 2) := by decide +kernel
theorem dX5_kindDigits_19 : decode cX5_kindDigits 19 = .ok (.imul, 1) := by decide +kernel
theorem dX5_kindDigits_20 : decode cX5_kindDigits 20 = .ok (.aload_n 0, 1) := by decide +kernel
theorem dX5_kindDigits_21 : decode cX5_kindDigits 21 = .ok (.getfield 12, 3) := by decide +kernel
theorem dX5_kindDigits_24 : decode cX5_kindDigits 24 = .ok (.getfield 44, 3) := by decide +kernel
theorem dX5_kindDigits_27 : decode cX5_kindDigits 27 = .ok (.iload_n 2, 1) := by decide +kernel
theorem dX5_kindDigits_28 : decode cX5_kindDigits 28 = .ok (.aaload, 1) := by decide +kernel
theorem dX5_kindDigits_29 : decode cX5_kindDigits 29 = .ok (.getfield 66, 3) := by decide +kernel
theorem dX5_kindDigits_32 : decode cX5_kindDigits 32 = .ok (.iadd, 1) := by decide +kernel
theorem dX5_kindDigits_33 : decode cX5_kindDigits 33 = .ok (.istore_n 1, 1) := by decide +kernel
theorem dX5_kindDigits_34 : decode cX5_kindDigits 34 = .ok (.iinc 2 (-1), 3) := by decide +kernel
theorem dX5_kindDigits_37 : decode cX5_kindDigits 37 = .ok (.goto (-25), 3) := by decide +kernel
theorem dX5_kindDigits_40 : decode cX5_kindDigits 40 = .ok (.iload_n 1, 1) := by decide +kernel
theorem dX5_kindDigits_41 : decode cX5_kindDigits 41 = .ok (.ireturn, 1) := by decide +kernel
theorem dX5_lostByKinds_0 : decode cX5_lostByKinds 0 = .ok (.aload_n 0, 1) := by decide +kernel
theorem dX5_lostByKinds_1 : decode cX5_lostByKinds 1 = .ok (.invokevirtual 72, 3) := by decide +kernel
theorem dX5_lostByKinds_4 : decode cX5_lostByKinds 4 = .ok (.istore_n 1, 1) := by decide +kernel
theorem dX5_lostByKinds_5 : decode cX5_lostByKinds 5 = .ok (.ldc 71, 2) := by decide +kernel
theorem dX5_lostByKinds_7 : decode cX5_lostByKinds 7 = .ok (.istore_n 2, 1) := by decide +kernel
theorem dX5_lostByKinds_8 : decode cX5_lostByKinds 8 = .ok (.iconst 0, 1) := by decide +kernel
theorem dX5_lostByKinds_9 : decode cX5_lostByKinds 9 = .ok (.istore_n 3, 1) := by decide +kernel
theorem dX5_lostByKinds_10 : decode cX5_lostByKinds 10 = .ok (.iload_n 3, 1) := by decide +kernel
theorem dX5_lostByKinds_11 : decode cX5_lostByKinds 11 = .ok (.bipush 7, 2) := by decide +kernel
theorem dX5_lostByKinds_13 : decode cX5_lostByKinds 13 = .ok (.if_icmp .ge 53, 3) := by decide +kernel
theorem dX5_lostByKinds_16 : decode cX5_lostByKinds 16 = .ok (.iconst 0, 1) := by decide +kernel
theorem dX5_lostByKinds_17 : decode cX5_lostByKinds 17 = .ok (.istore 4, 2) := by decide +kernel
theorem dX5_lostByKinds_19 : decode cX5_lostByKinds 19 = .ok (.iload 4, 2) := by decide +kernel
theorem dX5_lostByKinds_21 : decode cX5_lostByKinds 21 = .ok (.aload_n 0, 1) := by decide +kernel
theorem dX5_lostByKinds_22 : decode cX5_lostByKinds 22 = .ok (.getfield 12, 3) := by decide +kernel
theorem dX5_lostByKinds_25 : decode cX5_lostByKinds 25 = .ok (.getfield 78, 3) := by decide +kernel
theorem dX5_lostByKinds_28 : decode cX5_lostByKinds 28 = .ok (.if_icmp .ge 23, 3) := by decide +kernel
theorem dX5_lostByKinds_31 : decode cX5_lostByKinds 31 = .ok (.aload_n 0, 1) := by decide +kernel
theorem dX5_lostByKinds_32 : decode cX5_lostByKinds 32 = .ok (.getfield 12, 3) := by decide +kernel
theorem dX5_lostByKinds_35 : decode cX5_lostByKinds 35 = .ok (.getfield 44, 3) := by decide +kernel
theorem dX5_lostByKinds_38 : decode cX5_lostByKinds 38 = .ok (.iload 4, 2) := by decide +kernel
theorem dX5_lostByKinds_40 : decode cX5_lostByKinds 40 = .ok (.aaload, 1) := by decide +kernel
theorem dX5_lostByKinds_41 : decode cX5_lostByKinds 41 = .ok (.iload_n 3, 1) := by decide +kernel
theorem dX5_lostByKinds_42 : decode cX5_lostByKinds 42 = .ok (.putfield 66, 3) := by decide +kernel
theorem dX5_lostByKinds_45 : decode cX5_lostByKinds 45 = .ok (.iinc 4 1, 3) := by decide +kernel
theorem dX5_lostByKinds_48 : decode cX5_lostByKinds 48 = .ok (.goto (-29), 3) := by decide +kernel
theorem dX5_lostByKinds_51 : decode cX5_lostByKinds 51 = .ok (.iload_n 2, 1) := by decide +kernel
theorem dX5_lostByKinds_52 : decode cX5_lostByKinds 52 = .ok (.aload_n 0, 1) := by decide +kernel
theorem dX5_lostByKinds_53 : decode cX5_lostByKinds 53 = .ok (.invokevirtual 72, 3) := by decide +kernel
theorem dX5_lostByKinds_56 : decode cX5_lostByKinds 56 = .ok (.invokestatic 85, 3) := by decide +kernel
theorem dX5_lostByKinds_59 : decode cX5_lostByKinds 59 = .ok (.istore_n 2, 1) := by decide +kernel
theorem dX5_lostByKinds_60 : decode cX5_lostByKinds 60 = .ok (.iinc 3 1, 3) := by decide +kernel
theorem dX5_lostByKinds_63 : decode cX5_lostByKinds 63 = .ok (.goto (-53), 3) := by decide +kernel
theorem dX5_lostByKinds_66 : decode cX5_lostByKinds 66 = .ok (.iload_n 1, 1) := by decide +kernel
theorem dX5_lostByKinds_67 : decode cX5_lostByKinds 67 = .ok (.iload_n 2, 1) := by decide +kernel
theorem dX5_lostByKinds_68 : decode cX5_lostByKinds 68 = .ok (.isub, 1) := by decide +kernel
theorem dX5_lostByKinds_69 : decode cX5_lostByKinds 69 = .ok (.ireturn, 1) := by decide +kernel
theorem dX5_bestMark_0 : decode cX5_bestMark 0 = .ok (.iconst 0, 1) := by decide +kernel
theorem dX5_bestMark_1 : decode cX5_bestMark 1 = .ok (.istore_n 2, 1) := by decide +kernel
theorem dX5_bestMark_2 : decode cX5_bestMark 2 = .ok (.ldc 71, 2) := by decide +kernel
theorem dX5_bestMark_4 : decode cX5_bestMark 4 = .ok (.istore_n 3, 1) := by decide +kernel
theorem dX5_bestMark_5 : decode cX5_bestMark 5 = .ok (.iconst 0, 1) := by decide +kernel
theorem dX5_bestMark_6 : decode cX5_bestMark 6 = .ok (.istore 4, 2) := by decide +kernel
theorem dX5_bestMark_8 : decode cX5_bestMark 8 = .ok (.iload 4, 2) := by decide +kernel
theorem dX5_bestMark_10 : decode cX5_bestMark 10 = .ok (.aload_n 0, 1) := by decide +kernel
theorem dX5_bestMark_11 : decode cX5_bestMark 11 = .ok (.getfield 12, 3) := by decide +kernel
theorem dX5_bestMark_14 : decode cX5_bestMark 14 = .ok (.getfield 91, 3) := by decide +kernel
theorem dX5_bestMark_17 : decode cX5_bestMark 17 = .ok (.iconst 0, 1) := by decide +kernel
theorem dX5_bestMark_18 : decode cX5_bestMark 18 = .ok (.iaload, 1) := by decide +kernel
theorem dX5_bestMark_19 : decode cX5_bestMark 19 = .ok (.if_icmp .gt 39, 3) := by decide +kernel
theorem dX5_bestMark_22 : decode cX5_bestMark 22 = .ok (.aload_n 0, 1) := by decide +kernel
theorem dX5_bestMark_23 : decode cX5_bestMark 23 = .ok (.getfield 12, 3) := by decide +kernel
theorem dX5_bestMark_26 : decode cX5_bestMark 26 = .ok (.getfield 91, 3) := by decide +kernel
theorem dX5_bestMark_29 : decode cX5_bestMark 29 = .ok (.bipush 6, 2) := by decide +kernel
theorem dX5_bestMark_31 : decode cX5_bestMark 31 = .ok (.iload 4, 2) := by decide +kernel
theorem dX5_bestMark_33 : decode cX5_bestMark 33 = .ok (.iastore, 1) := by decide +kernel
theorem dX5_bestMark_34 : decode cX5_bestMark 34 = .ok (.aload_n 0, 1) := by decide +kernel
theorem dX5_bestMark_35 : decode cX5_bestMark 35 = .ok (.invokevirtual 72, 3) := by decide +kernel
theorem dX5_bestMark_38 : decode cX5_bestMark 38 = .ok (.istore 5, 2) := by decide +kernel
theorem dX5_bestMark_40 : decode cX5_bestMark 40 = .ok (.iload 5, 2) := by decide +kernel
theorem dX5_bestMark_42 : decode cX5_bestMark 42 = .ok (.iload_n 3, 1) := by decide +kernel
theorem dX5_bestMark_43 : decode cX5_bestMark 43 = .ok (.if_icmp .ge 9, 3) := by decide +kernel
theorem dX5_bestMark_46 : decode cX5_bestMark 46 = .ok (.iload 5, 2) := by decide +kernel
theorem dX5_bestMark_48 : decode cX5_bestMark 48 = .ok (.istore_n 3, 1) := by decide +kernel
theorem dX5_bestMark_49 : decode cX5_bestMark 49 = .ok (.iload 4, 2) := by decide +kernel
theorem dX5_bestMark_51 : decode cX5_bestMark 51 = .ok (.istore_n 2, 1) := by decide +kernel
theorem dX5_bestMark_52 : decode cX5_bestMark 52 = .ok (.iinc 4 1, 3) := by decide +kernel
theorem dX5_bestMark_55 : decode cX5_bestMark 55 = .ok (.goto (-47), 3) := by decide +kernel
theorem dX5_bestMark_58 : decode cX5_bestMark 58 = .ok (.iload_n 1, 1) := by decide +kernel
theorem dX5_bestMark_59 : decode cX5_bestMark 59 = .ok (.ifCond .eq 7, 3) := by decide +kernel
theorem dX5_bestMark_62 : decode cX5_bestMark 62 = .ok (.iload_n 2, 1) := by decide +kernel
theorem dX5_bestMark_63 : decode cX5_bestMark 63 = .ok (.goto 4, 3) := by decide +kernel
theorem dX5_bestMark_66 : decode cX5_bestMark 66 = .ok (.iload_n 3, 1) := by decide +kernel
theorem dX5_bestMark_67 : decode cX5_bestMark 67 = .ok (.ireturn, 1) := by decide +kernel
theorem dX5_savedBySecond_0 : decode cX5_savedBySecond 0 = .ok (.aload_n 0, 1) := by decide +kernel
theorem dX5_savedBySecond_1 : decode cX5_savedBySecond 1 = .ok (.getfield 12, 3) := by decide +kernel
theorem dX5_savedBySecond_4 : decode cX5_savedBySecond 4 = .ok (.getfield 91, 3) := by decide +kernel
theorem dX5_savedBySecond_7 : decode cX5_savedBySecond 7 = .ok (.bipush 7, 2) := by decide +kernel
theorem dX5_savedBySecond_9 : decode cX5_savedBySecond 9 = .ok (.iconst 1, 1) := by decide +kernel
theorem dX5_savedBySecond_10 : decode cX5_savedBySecond 10 = .ok (.iastore, 1) := by decide +kernel
theorem dX5_savedBySecond_11 : decode cX5_savedBySecond 11 = .ok (.aload_n 0, 1) := by decide +kernel
theorem dX5_savedBySecond_12 : decode cX5_savedBySecond 12 = .ok (.invokevirtual 72, 3) := by decide +kernel
theorem dX5_savedBySecond_15 : decode cX5_savedBySecond 15 = .ok (.istore_n 1, 1) := by decide +kernel
theorem dX5_savedBySecond_16 : decode cX5_savedBySecond 16 = .ok (.aload_n 0, 1) := by decide +kernel
theorem dX5_savedBySecond_17 : decode cX5_savedBySecond 17 = .ok (.getfield 12, 3) := by decide +kernel
theorem dX5_savedBySecond_20 : decode cX5_savedBySecond 20 = .ok (.getfield 91, 3) := by decide +kernel
theorem dX5_savedBySecond_23 : decode cX5_savedBySecond 23 = .ok (.bipush 7, 2) := by decide +kernel
theorem dX5_savedBySecond_25 : decode cX5_savedBySecond 25 = .ok (.iconst 2, 1) := by decide +kernel
theorem dX5_savedBySecond_26 : decode cX5_savedBySecond 26 = .ok (.iastore, 1) := by decide +kernel
theorem dX5_savedBySecond_27 : decode cX5_savedBySecond 27 = .ok (.iload_n 1, 1) := by decide +kernel
theorem dX5_savedBySecond_28 : decode cX5_savedBySecond 28 = .ok (.aload_n 0, 1) := by decide +kernel
theorem dX5_savedBySecond_29 : decode cX5_savedBySecond 29 = .ok (.invokevirtual 72, 3) := by decide +kernel
theorem dX5_savedBySecond_32 : decode cX5_savedBySecond 32 = .ok (.isub, 1) := by decide +kernel
theorem dX5_savedBySecond_33 : decode cX5_savedBySecond 33 = .ok (.ireturn, 1) := by decide +kernel
theorem dX5_comerToFollow_0 : decode cX5_comerToFollow 0 = .ok (.bipush (-9), 2) := by decide +kernel
theorem dX5_comerToFollow_2 : decode cX5_comerToFollow 2 = .ok (.istore_n 2, 1) := by decide +kernel
theorem dX5_comerToFollow_3 : decode cX5_comerToFollow 3 = .ok (.ldc 71, 2) := by decide +kernel
theorem dX5_comerToFollow_5 : decode cX5_comerToFollow 5 = .ok (.istore_n 3, 1) := by decide +kernel
theorem dX5_comerToFollow_6 : decode cX5_comerToFollow 6 = .ok (.iconst 0, 1) := by decide +kernel
theorem dX5_comerToFollow_7 : decode cX5_comerToFollow 7 = .ok (.istore 4, 2) := by decide +kernel
theorem dX5_comerToFollow_9 : decode cX5_comerToFollow 9 = .ok (.iload 4, 2) := by decide +kernel
theorem dX5_comerToFollow_11 : decode cX5_comerToFollow 11 = .ok (.aload_n 1, 1) := by decide +kernel
theorem dX5_comerToFollow_12 : decode cX5_comerToFollow 12 = .ok (.getfield 78, 3) := by decide +kernel
theorem dX5_comerToFollow_15 : decode cX5_comerToFollow 15 = .ok (.if_icmp .ge 80, 3) := by decide +kernel
theorem dX5_comerToFollow_18 : decode cX5_comerToFollow 18 = .ok (.aload_n 1, 1) := by decide +kernel
theorem dX5_comerToFollow_19 : decode cX5_comerToFollow 19 = .ok (.getfield 44, 3) := by decide +kernel
theorem dX5_comerToFollow_22 : decode cX5_comerToFollow 22 = .ok (.iload 4, 2) := by decide +kernel
theorem dX5_comerToFollow_24 : decode cX5_comerToFollow 24 = .ok (.aaload, 1) := by decide +kernel
theorem dX5_comerToFollow_25 : decode cX5_comerToFollow 25 = .ok (.astore 5, 2) := by decide +kernel
theorem dX5_comerToFollow_27 : decode cX5_comerToFollow 27 = .ok (.iconst 0, 1) := by decide +kernel
theorem dX5_comerToFollow_28 : decode cX5_comerToFollow 28 = .ok (.istore 6, 2) := by decide +kernel
theorem dX5_comerToFollow_30 : decode cX5_comerToFollow 30 = .ok (.iload 6, 2) := by decide +kernel
theorem dX5_comerToFollow_32 : decode cX5_comerToFollow 32 = .ok (.aload_n 0, 1) := by decide +kernel
theorem dX5_comerToFollow_33 : decode cX5_comerToFollow 33 = .ok (.getfield 12, 3) := by decide +kernel
theorem dX5_comerToFollow_36 : decode cX5_comerToFollow 36 = .ok (.getfield 78, 3) := by decide +kernel
theorem dX5_comerToFollow_39 : decode cX5_comerToFollow 39 = .ok (.if_icmp .ge 32, 3) := by decide +kernel
theorem dX5_comerToFollow_42 : decode cX5_comerToFollow 42 = .ok (.aload_n 0, 1) := by decide +kernel
theorem dX5_comerToFollow_43 : decode cX5_comerToFollow 43 = .ok (.getfield 12, 3) := by decide +kernel
theorem dX5_comerToFollow_46 : decode cX5_comerToFollow 46 = .ok (.getfield 44, 3) := by decide +kernel
theorem dX5_comerToFollow_49 : decode cX5_comerToFollow 49 = .ok (.iload 6, 2) := by decide +kernel
theorem dX5_comerToFollow_51 : decode cX5_comerToFollow 51 = .ok (.aaload, 1) := by decide +kernel
theorem dX5_comerToFollow_52 : decode cX5_comerToFollow 52 = .ok (.aload 5, 2) := by decide +kernel
theorem dX5_comerToFollow_54 : decode cX5_comerToFollow 54 = .ok (.getfield 66, 3) := by decide +kernel
theorem dX5_comerToFollow_57 : decode cX5_comerToFollow 57 = .ok (.aload 5, 2) := by decide +kernel
theorem dX5_comerToFollow_59 : decode cX5_comerToFollow 59 = .ok (.getfield 95, 3) := by decide +kernel
theorem dX5_comerToFollow_62 : decode cX5_comerToFollow 62 = .ok (.invokevirtual 98, 3) := by decide +kernel
theorem dX5_comerToFollow_65 : decode cX5_comerToFollow 65 = .ok (.iinc 6 1, 3) := by decide +kernel
theorem dX5_comerToFollow_68 : decode cX5_comerToFollow 68 = .ok (.goto (-38), 3) := by decide +kernel
theorem dX5_comerToFollow_71 : decode cX5_comerToFollow 71 = .ok (.aload_n 0, 1) := by decide +kernel
theorem dX5_comerToFollow_72 : decode cX5_comerToFollow 72 = .ok (.invokevirtual 72, 3) := by decide +kernel
theorem dX5_comerToFollow_75 : decode cX5_comerToFollow 75 = .ok (.istore 6, 2) := by decide +kernel
theorem dX5_comerToFollow_77 : decode cX5_comerToFollow 77 = .ok (.iload 6, 2) := by decide +kernel
theorem dX5_comerToFollow_79 : decode cX5_comerToFollow 79 = .ok (.iload_n 3, 1) := by decide +kernel
theorem dX5_comerToFollow_80 : decode cX5_comerToFollow 80 = .ok (.if_icmp .ge 9, 3) := by decide +kernel
theorem dX5_comerToFollow_83 : decode cX5_comerToFollow 83 = .ok (.iload 6, 2) := by decide +kernel
theorem dX5_comerToFollow_85 : decode cX5_comerToFollow 85 = .ok (.istore_n 3, 1) := by decide +kernel
theorem dX5_comerToFollow_86 : decode cX5_comerToFollow 86 = .ok (.iload 4, 2) := by decide +kernel
theorem dX5_comerToFollow_88 : decode cX5_comerToFollow 88 = .ok (.istore_n 2, 1) := by decide +kernel
theorem dX5_comerToFollow_89 : decode cX5_comerToFollow 89 = .ok (.iinc 4 1, 3) := by decide +kernel
theorem dX5_comerToFollow_92 : decode cX5_comerToFollow 92 = .ok (.goto (-83), 3) := by decide +kernel
theorem dX5_comerToFollow_95 : decode cX5_comerToFollow 95 = .ok (.iload_n 2, 1) := by decide +kernel
theorem dX5_comerToFollow_96 : decode cX5_comerToFollow 96 = .ok (.ireturn, 1) := by decide +kernel
theorem dX5_firstOtherLevel_0 : decode cX5_firstOtherLevel 0 = .ok (.iconst 0, 1) := by decide +kernel
theorem dX5_firstOtherLevel_1 : decode cX5_firstOtherLevel 1 = .ok (.istore_n 3, 1) := by decide +kernel
theorem dX5_firstOtherLevel_2 : decode cX5_firstOtherLevel 2 = .ok (.iload_n 3, 1) := by decide +kernel
theorem dX5_firstOtherLevel_3 : decode cX5_firstOtherLevel 3 = .ok (.iload_n 2, 1) := by decide +kernel
theorem dX5_firstOtherLevel_4 : decode cX5_firstOtherLevel 4 = .ok (.if_icmp .ge 43, 3) := by decide +kernel
theorem dX5_firstOtherLevel_7 : decode cX5_firstOtherLevel 7 = .ok (.iload_n 3, 1) := by decide +kernel
theorem dX5_firstOtherLevel_8 : decode cX5_firstOtherLevel 8 = .ok (.aload_n 1, 1) := by decide +kernel
theorem dX5_firstOtherLevel_9 : decode cX5_firstOtherLevel 9 = .ok (.arraylength, 1) := by decide +kernel
theorem dX5_firstOtherLevel_10 : decode cX5_firstOtherLevel 10 = .ok (.if_icmp .ge 37, 3) := by decide +kernel
theorem dX5_firstOtherLevel_13 : decode cX5_firstOtherLevel 13 = .ok (.aload_n 0, 1) := by decide +kernel
theorem dX5_firstOtherLevel_14 : decode cX5_firstOtherLevel 14 = .ok (.getfield 12, 3) := by decide +kernel
theorem dX5_firstOtherLevel_17 : decode cX5_firstOtherLevel 17 = .ok (.iconst 1, 1) := by decide +kernel
theorem dX5_firstOtherLevel_18 : decode cX5_firstOtherLevel 18 = .ok (.invokevirtual 26, 3) := by decide +kernel
theorem dX5_firstOtherLevel_21 : decode cX5_firstOtherLevel 21 = .ok (.aload_n 0, 1) := by decide +kernel
theorem dX5_firstOtherLevel_22 : decode cX5_firstOtherLevel 22 = .ok (.getfield 12, 3) := by decide +kernel
theorem dX5_firstOtherLevel_25 : decode cX5_firstOtherLevel 25 = .ok (.getfield 102, 3) := by decide +kernel
theorem dX5_firstOtherLevel_28 : decode cX5_firstOtherLevel 28 = .ok (.iconst 0, 1) := by decide +kernel
theorem dX5_firstOtherLevel_29 : decode cX5_firstOtherLevel 29 = .ok (.aaload, 1) := by decide +kernel
theorem dX5_firstOtherLevel_30 : decode cX5_firstOtherLevel 30 = .ok (.getfield 106, 3) := by decide +kernel
theorem dX5_firstOtherLevel_33 : decode cX5_firstOtherLevel 33 = .ok (.aload_n 1, 1) := by decide +kernel
theorem dX5_firstOtherLevel_34 : decode cX5_firstOtherLevel 34 = .ok (.iload_n 3, 1) := by decide +kernel
theorem dX5_firstOtherLevel_35 : decode cX5_firstOtherLevel 35 = .ok (.iaload, 1) := by decide +kernel
theorem dX5_firstOtherLevel_36 : decode cX5_firstOtherLevel 36 = .ok (.if_icmp .eq 5, 3) := by decide +kernel
theorem dX5_firstOtherLevel_39 : decode cX5_firstOtherLevel 39 = .ok (.iload_n 3, 1) := by decide +kernel
theorem dX5_firstOtherLevel_40 : decode cX5_firstOtherLevel 40 = .ok (.ireturn, 1) := by decide +kernel
theorem dX5_firstOtherLevel_41 : decode cX5_firstOtherLevel 41 = .ok (.iinc 3 1, 3) := by decide +kernel
theorem dX5_firstOtherLevel_44 : decode cX5_firstOtherLevel 44 = .ok (.goto (-42), 3) := by decide +kernel
theorem dX5_firstOtherLevel_47 : decode cX5_firstOtherLevel 47 = .ok (.bipush (-9), 2) := by decide +kernel
theorem dX5_firstOtherLevel_49 : decode cX5_firstOtherLevel 49 = .ok (.ireturn, 1) := by decide +kernel
theorem dX5_drawnDays_0 : decode cX5_drawnDays 0 = .ok (.aload_n 0, 1) := by decide +kernel
theorem dX5_drawnDays_1 : decode cX5_drawnDays 1 = .ok (.iload_n 2, 1) := by decide +kernel
theorem dX5_drawnDays_2 : decode cX5_drawnDays 2 = .ok (.putfield 111, 3) := by decide +kernel
theorem dX5_drawnDays_5 : decode cX5_drawnDays 5 = .ok (.iconst 0, 1) := by decide +kernel
theorem dX5_drawnDays_6 : decode cX5_drawnDays 6 = .ok (.istore 4, 2) := by decide +kernel
theorem dX5_drawnDays_8 : decode cX5_drawnDays 8 = .ok (.iconst 0, 1) := by decide +kernel
theorem dX5_drawnDays_9 : decode cX5_drawnDays 9 = .ok (.istore 5, 2) := by decide +kernel
theorem dX5_drawnDays_11 : decode cX5_drawnDays 11 = .ok (.iconst 0, 1) := by decide +kernel
theorem dX5_drawnDays_12 : decode cX5_drawnDays 12 = .ok (.istore 6, 2) := by decide +kernel
theorem dX5_drawnDays_14 : decode cX5_drawnDays 14 = .ok (.iload 6, 2) := by decide +kernel
theorem dX5_drawnDays_16 : decode cX5_drawnDays 16 = .ok (.iload_n 1, 1) := by decide +kernel
theorem dX5_drawnDays_17 : decode cX5_drawnDays 17 = .ok (.if_icmp .ge 71, 3) := by decide +kernel
theorem dX5_drawnDays_20 : decode cX5_drawnDays 20 = .ok (.iconst 0, 1) := by decide +kernel
theorem dX5_drawnDays_21 : decode cX5_drawnDays 21 = .ok (.istore 7, 2) := by decide +kernel
theorem dX5_drawnDays_23 : decode cX5_drawnDays 23 = .ok (.iload 7, 2) := by decide +kernel
theorem dX5_drawnDays_25 : decode cX5_drawnDays 25 = .ok (.aload_n 0, 1) := by decide +kernel
theorem dX5_drawnDays_26 : decode cX5_drawnDays 26 = .ok (.getfield 12, 3) := by decide +kernel
theorem dX5_drawnDays_29 : decode cX5_drawnDays 29 = .ok (.getfield 78, 3) := by decide +kernel
theorem dX5_drawnDays_32 : decode cX5_drawnDays 32 = .ok (.if_icmp .ge 28, 3) := by decide +kernel
theorem dX5_drawnDays_35 : decode cX5_drawnDays 35 = .ok (.aload_n 0, 1) := by decide +kernel
theorem dX5_drawnDays_36 : decode cX5_drawnDays 36 = .ok (.getfield 12, 3) := by decide +kernel
theorem dX5_drawnDays_39 : decode cX5_drawnDays 39 = .ok (.getfield 44, 3) := by decide +kernel
theorem dX5_drawnDays_42 : decode cX5_drawnDays 42 = .ok (.iload 7, 2) := by decide +kernel
theorem dX5_drawnDays_44 : decode cX5_drawnDays 44 = .ok (.aaload, 1) := by decide +kernel
theorem dX5_drawnDays_45 : decode cX5_drawnDays 45 = .ok (.aload_n 0, 1) := by decide +kernel
theorem dX5_drawnDays_46 : decode cX5_drawnDays 46 = .ok (.bipush 120, 2) := by decide +kernel
theorem dX5_drawnDays_48 : decode cX5_drawnDays 48 = .ok (.invokevirtual 114, 3) := by decide +kernel
theorem dX5_drawnDays_51 : decode cX5_drawnDays 51 = .ok (.putfield 117, 3) := by decide +kernel
theorem dX5_drawnDays_54 : decode cX5_drawnDays 54 = .ok (.iinc 7 1, 3) := by decide +kernel
theorem dX5_drawnDays_57 : decode cX5_drawnDays 57 = .ok (.goto (-34), 3) := by decide +kernel
theorem dX5_drawnDays_60 : decode cX5_drawnDays 60 = .ok (.iload 4, 2) := by decide +kernel
theorem dX5_drawnDays_62 : decode cX5_drawnDays 62 = .ok (.aload_n 0, 1) := by decide +kernel
theorem dX5_drawnDays_63 : decode cX5_drawnDays 63 = .ok (.invokevirtual 72, 3) := by decide +kernel
theorem dX5_drawnDays_66 : decode cX5_drawnDays 66 = .ok (.iadd, 1) := by decide +kernel
theorem dX5_drawnDays_67 : decode cX5_drawnDays 67 = .ok (.istore 4, 2) := by decide +kernel
theorem dX5_drawnDays_69 : decode cX5_drawnDays 69 = .ok (.iload 5, 2) := by decide +kernel
theorem dX5_drawnDays_71 : decode cX5_drawnDays 71 = .ok (.aload_n 0, 1) := by decide +kernel
theorem dX5_drawnDays_72 : decode cX5_drawnDays 72 = .ok (.getfield 12, 3) := by decide +kernel
theorem dX5_drawnDays_75 : decode cX5_drawnDays 75 = .ok (.iconst 3, 1) := by decide +kernel
theorem dX5_drawnDays_76 : decode cX5_drawnDays 76 = .ok (.invokevirtual 34, 3) := by decide +kernel
theorem dX5_drawnDays_79 : decode cX5_drawnDays 79 = .ok (.iadd, 1) := by decide +kernel
theorem dX5_drawnDays_80 : decode cX5_drawnDays 80 = .ok (.istore 5, 2) := by decide +kernel
theorem dX5_drawnDays_82 : decode cX5_drawnDays 82 = .ok (.iinc 6 1, 3) := by decide +kernel
theorem dX5_drawnDays_85 : decode cX5_drawnDays 85 = .ok (.goto (-71), 3) := by decide +kernel
theorem dX5_drawnDays_88 : decode cX5_drawnDays 88 = .ok (.iload_n 3, 1) := by decide +kernel
theorem dX5_drawnDays_89 : decode cX5_drawnDays 89 = .ok (.ifCond .eq 8, 3) := by decide +kernel
theorem dX5_drawnDays_92 : decode cX5_drawnDays 92 = .ok (.iload 4, 2) := by decide +kernel
theorem dX5_drawnDays_94 : decode cX5_drawnDays 94 = .ok (.goto 5, 3) := by decide +kernel
theorem dX5_drawnDays_97 : decode cX5_drawnDays 97 = .ok (.iload 5, 2) := by decide +kernel
theorem dX5_drawnDays_99 : decode cX5_drawnDays 99 = .ok (.ireturn, 1) := by decide +kernel
theorem dX5_draw_0 : decode cX5_draw 0 = .ok (.aload_n 0, 1) := by decide +kernel
theorem dX5_draw_1 : decode cX5_draw 1 = .ok (.aload_n 0, 1) := by decide +kernel
theorem dX5_draw_2 : decode cX5_draw 2 = .ok (.getfield 111, 3) := by decide +kernel
theorem dX5_draw_5 : decode cX5_draw 5 = .ok (.ldc 120, 2) := by decide +kernel
theorem dX5_draw_7 : decode cX5_draw 7 = .ok (.imul, 1) := by decide +kernel
theorem dX5_draw_8 : decode cX5_draw 8 = .ok (.sipush 12345, 3) := by decide +kernel
theorem dX5_draw_11 : decode cX5_draw 11 = .ok (.iadd, 1) := by decide +kernel
theorem dX5_draw_12 : decode cX5_draw 12 = .ok (.putfield 111, 3) := by decide +kernel
theorem dX5_draw_15 : decode cX5_draw 15 = .ok (.iload_n 1, 1) := by decide +kernel
theorem dX5_draw_16 : decode cX5_draw 16 = .ok (.ifCond .le 18, 3) := by decide +kernel
theorem dX5_draw_19 : decode cX5_draw 19 = .ok (.aload_n 0, 1) := by decide +kernel
theorem dX5_draw_20 : decode cX5_draw 20 = .ok (.getfield 111, 3) := by decide +kernel
theorem dX5_draw_23 : decode cX5_draw 23 = .ok (.ldc 71, 2) := by decide +kernel
theorem dX5_draw_25 : decode cX5_draw 25 = .ok (.iand, 1) := by decide +kernel
theorem dX5_draw_26 : decode cX5_draw 26 = .ok (.ldc 121, 2) := by decide +kernel
theorem dX5_draw_28 : decode cX5_draw 28 = .ok (.idiv, 1) := by decide +kernel
theorem dX5_draw_29 : decode cX5_draw 29 = .ok (.iload_n 1, 1) := by decide +kernel
theorem dX5_draw_30 : decode cX5_draw 30 = .ok (.irem, 1) := by decide +kernel
theorem dX5_draw_31 : decode cX5_draw 31 = .ok (.goto 4, 3) := by decide +kernel
theorem dX5_draw_34 : decode cX5_draw 34 = .ok (.iconst 0, 1) := by decide +kernel
theorem dX5_draw_35 : decode cX5_draw 35 = .ok (.ireturn, 1) := by decide +kernel
theorem dX6_init_0 : decode cX6_init 0 = .ok (.aload_n 0, 1) := by decide +kernel
theorem dX6_init_1 : decode cX6_init 1 = .ok (.invokespecial 1, 3) := by decide +kernel
theorem dX6_init_4 : decode cX6_init 4 = .ok (.aload_n 0, 1) := by decide +kernel
theorem dX6_init_5 : decode cX6_init 5 = .ok (.new 7, 3) := by decide +kernel
theorem dX6_init_8 : decode cX6_init 8 = .ok (.dup, 1) := by decide +kernel
theorem dX6_init_9 : decode cX6_init 9 = .ok (.invokespecial 9, 3) := by decide +kernel
theorem dX6_init_12 : decode cX6_init 12 = .ok (.putfield 10, 3) := by decide +kernel
theorem dX6_init_15 : decode cX6_init 15 = .ok (.aload_n 0, 1) := by decide +kernel
theorem dX6_init_16 : decode cX6_init 16 = .ok (.new 7, 3) := by decide +kernel
theorem dX6_init_19 : decode cX6_init 19 = .ok (.dup, 1) := by decide +kernel
theorem dX6_init_20 : decode cX6_init 20 = .ok (.invokespecial 9, 3) := by decide +kernel
theorem dX6_init_23 : decode cX6_init 23 = .ok (.putfield 16, 3) := by decide +kernel
theorem dX6_init_26 : decode cX6_init 26 = .ok (.aload_n 0, 1) := by decide +kernel
theorem dX6_init_27 : decode cX6_init 27 = .ok (.new 19, 3) := by decide +kernel
theorem dX6_init_30 : decode cX6_init 30 = .ok (.dup, 1) := by decide +kernel
theorem dX6_init_31 : decode cX6_init 31 = .ok (.invokespecial 21, 3) := by decide +kernel
theorem dX6_init_34 : decode cX6_init 34 = .ok (.putfield 22, 3) := by decide +kernel
theorem dX6_init_37 : decode cX6_init 37 = .ok (.aload_n 0, 1) := by decide +kernel
theorem dX6_init_38 : decode cX6_init 38 = .ok (.new 26, 3) := by decide +kernel
theorem dX6_init_41 : decode cX6_init 41 = .ok (.dup, 1) := by decide +kernel
theorem dX6_init_42 : decode cX6_init 42 = .ok (.invokespecial 28, 3) := by decide +kernel
theorem dX6_init_45 : decode cX6_init 45 = .ok (.putfield 29, 3) := by decide +kernel
theorem dX6_init_48 : decode cX6_init 48 = .ok (.aload_n 0, 1) := by decide +kernel
theorem dX6_init_49 : decode cX6_init 49 = .ok (.new 33, 3) := by decide +kernel
theorem dX6_init_52 : decode cX6_init 52 = .ok (.dup, 1) := by decide +kernel
theorem dX6_init_53 : decode cX6_init 53 = .ok (.invokespecial 35, 3) := by decide +kernel
theorem dX6_init_56 : decode cX6_init 56 = .ok (.putfield 36, 3) := by decide +kernel
theorem dX6_init_59 : decode cX6_init 59 = .ok (.aload_n 0, 1) := by decide +kernel
theorem dX6_init_60 : decode cX6_init 60 = .ok (.bipush 12, 2) := by decide +kernel
theorem dX6_init_62 : decode cX6_init 62 = .ok (.newarray .int, 2) := by decide +kernel
theorem dX6_init_64 : decode cX6_init 64 = .ok (.putfield 40, 3) := by decide +kernel
theorem dX6_init_67 : decode cX6_init 67 = .ok (.aload_n 0, 1) := by decide +kernel
theorem dX6_init_68 : decode cX6_init 68 = .ok (.bipush 7, 2) := by decide +kernel
theorem dX6_init_70 : decode cX6_init 70 = .ok (.newarray .int, 2) := by decide +kernel
theorem dX6_init_72 : decode cX6_init 72 = .ok (.putfield 44, 3) := by decide +kernel
theorem dX6_init_75 : decode cX6_init 75 = .ok (.return_, 1) := by decide +kernel
theorem dX6_feed_0 : decode cX6_feed 0 = .ok (.iload_n 1, 1) := by decide +kernel
theorem dX6_feed_1 : decode cX6_feed 1 = .ok (.ifCond .ge 10, 3) := by decide +kernel
theorem dX6_feed_4 : decode cX6_feed 4 = .ok (.aload_n 0, 1) := by decide +kernel
theorem dX6_feed_5 : decode cX6_feed 5 = .ok (.bipush (-4), 2) := by decide +kernel
theorem dX6_feed_7 : decode cX6_feed 7 = .ok (.invokevirtual 47, 3) := by decide +kernel
theorem dX6_feed_10 : decode cX6_feed 10 = .ok (.ireturn, 1) := by decide +kernel
theorem dX6_feed_11 : decode cX6_feed 11 = .ok (.iload_n 1, 1) := by decide +kernel
theorem dX6_feed_12 : decode cX6_feed 12 = .ok (.sipush 255, 3) := by decide +kernel
theorem dX6_feed_15 : decode cX6_feed 15 = .ok (.if_icmp .gt 15, 3) := by decide +kernel
theorem dX6_feed_18 : decode cX6_feed 18 = .ok (.aload_n 0, 1) := by decide +kernel
theorem dX6_feed_19 : decode cX6_feed 19 = .ok (.getfield 36, 3) := by decide +kernel
theorem dX6_feed_22 : decode cX6_feed 22 = .ok (.getfield 51, 3) := by decide +kernel
theorem dX6_feed_25 : decode cX6_feed 25 = .ok (.bipush 96, 2) := by decide +kernel
theorem dX6_feed_27 : decode cX6_feed 27 = .ok (.if_icmp .lt 10, 3) := by decide +kernel
theorem dX6_feed_30 : decode cX6_feed 30 = .ok (.aload_n 0, 1) := by decide +kernel
theorem dX6_feed_31 : decode cX6_feed 31 = .ok (.bipush (-6), 2) := by decide +kernel
theorem dX6_feed_33 : decode cX6_feed 33 = .ok (.invokevirtual 47, 3) := by decide +kernel
theorem dX6_feed_36 : decode cX6_feed 36 = .ok (.ireturn, 1) := by decide +kernel
theorem dX6_feed_37 : decode cX6_feed 37 = .ok (.aload_n 0, 1) := by decide +kernel
theorem dX6_feed_38 : decode cX6_feed 38 = .ok (.getfield 36, 3) := by decide +kernel
theorem dX6_feed_41 : decode cX6_feed 41 = .ok (.iload_n 1, 1) := by decide +kernel
theorem dX6_feed_42 : decode cX6_feed 42 = .ok (.invokevirtual 55, 3) := by decide +kernel
theorem dX6_feed_45 : decode cX6_feed 45 = .ok (.ireturn, 1) := by decide +kernel
theorem dX6_office_0 : decode cX6_office 0 = .ok (.aload_n 0, 1) := by decide +kernel
theorem dX6_office_1 : decode cX6_office 1 = .ok (.getfield 22, 3) := by decide +kernel
theorem dX6_office_4 : decode cX6_office 4 = .ok (.aload_n 0, 1) := by decide +kernel
theorem dX6_office_5 : decode cX6_office 5 = .ok (.getfield 10, 3) := by decide +kernel
theorem dX6_office_8 : decode cX6_office 8 = .ok (.invokevirtual 58, 3) := by decide +kernel
theorem dX6_office_11 : decode cX6_office 11 = .ok (.aload_n 0, 1) := by decide +kernel
theorem dX6_office_12 : decode cX6_office 12 = .ok (.getfield 36, 3) := by decide +kernel
theorem dX6_office_15 : decode cX6_office 15 = .ok (.aload_n 0, 1) := by decide +kernel
theorem dX6_office_16 : decode cX6_office 16 = .ok (.getfield 22, 3) := by decide +kernel
theorem dX6_office_19 : decode cX6_office 19 = .ok (.getfield 62, 3) := by decide +kernel
theorem dX6_office_22 : decode cX6_office 22 = .ok (.invokevirtual 65, 3) := by decide +kernel
theorem dX6_office_25 : decode cX6_office 25 = .ok (.istore_n 1, 1) := by decide +kernel
theorem dX6_office_26 : decode cX6_office 26 = .ok (.iload_n 1, 1) := by decide +kernel
theorem dX6_office_27 : decode cX6_office 27 = .ok (.ifCond .le 17, 3) := by decide +kernel
theorem dX6_office_30 : decode cX6_office 30 = .ok (.aload_n 0, 1) := by decide +kernel
theorem dX6_office_31 : decode cX6_office 31 = .ok (.getfield 10, 3) := by decide +kernel
theorem dX6_office_34 : decode cX6_office 34 = .ok (.aload_n 0, 1) := by decide +kernel
theorem dX6_office_35 : decode cX6_office 35 = .ok (.getfield 22, 3) := by decide +kernel
theorem dX6_office_38 : decode cX6_office 38 = .ok (.getfield 62, 3) := by decide +kernel
theorem dX6_office_41 : decode cX6_office 41 = .ok (.invokevirtual 69, 3) := by decide +kernel
theorem dX6_office_44 : decode cX6_office 44 = .ok (.aload_n 0, 1) := by decide +kernel
theorem dX6_office_45 : decode cX6_office 45 = .ok (.getfield 36, 3) := by decide +kernel
theorem dX6_office_48 : decode cX6_office 48 = .ok (.iconst 0, 1) := by decide +kernel
theorem dX6_office_49 : decode cX6_office 49 = .ok (.putfield 51, 3) := by decide +kernel
theorem dX6_office_52 : decode cX6_office 52 = .ok (.iload_n 1, 1) := by decide +kernel
theorem dX6_office_53 : decode cX6_office 53 = .ok (.ireturn, 1) := by decide +kernel
theorem dX6_comer_0 : decode cX6_comer 0 = .ok (.aload_n 0, 1) := by decide +kernel
theorem dX6_comer_1 : decode cX6_comer 1 = .ok (.getfield 10, 3) := by decide +kernel
theorem dX6_comer_4 : decode cX6_comer 4 = .ok (.iload_n 1, 1) := by decide +kernel
theorem dX6_comer_5 : decode cX6_comer 5 = .ok (.invokevirtual 72, 3) := by decide +kernel
theorem dX6_comer_8 : decode cX6_comer 8 = .ok (.ifCond .ne 9, 3) := by decide +kernel
theorem dX6_comer_11 : decode cX6_comer 11 = .ok (.aload_n 0, 1) := by decide +kernel
theorem dX6_comer_12 : decode cX6_comer 12 = .ok (.iconst (-1), 1) := by decide +kernel
theorem dX6_comer_13 : decode cX6_comer 13 = .ok (.invokevirtual 47, 3) := by decide +kernel
theorem dX6_comer_16 : decode cX6_comer 16 = .ok (.ireturn, 1) := by decide +kernel
theorem dX6_comer_17 : decode cX6_comer 17 = .ok (.iload_n 2, 1) := by decide +kernel
theorem dX6_comer_18 : decode cX6_comer 18 = .ok (.ifCond .lt 9, 3) := by decide +kernel
theorem dX6_comer_21 : decode cX6_comer 21 = .ok (.iload_n 2, 1) := by decide +kernel
theorem dX6_comer_22 : decode cX6_comer 22 = .ok (.bipush 7, 2) := by decide +kernel
theorem dX6_comer_24 : decode cX6_comer 24 = .ok (.if_icmp .le 10, 3) := by decide +kernel
theorem dX6_comer_27 : decode cX6_comer 27 = .ok (.aload_n 0, 1) := by decide +kernel
theorem dX6_comer_28 : decode cX6_comer 28 = .ok (.bipush (-2), 2) := by decide +kernel
theorem dX6_comer_30 : decode cX6_comer 30 = .ok (.invokevirtual 47, 3) := by decide +kernel
theorem dX6_comer_33 : decode cX6_comer 33 = .ok (.ireturn, 1) := by decide +kernel
theorem dX6_comer_34 : decode cX6_comer 34 = .ok (.aload_n 0, 1) := by decide +kernel
theorem dX6_comer_35 : decode cX6_comer 35 = .ok (.getfield 10, 3) := by decide +kernel
theorem dX6_comer_38 : decode cX6_comer 38 = .ok (.getfield 76, 3) := by decide +kernel
theorem dX6_comer_41 : decode cX6_comer 41 = .ok (.iload_n 1, 1) := by decide +kernel
theorem dX6_comer_42 : decode cX6_comer 42 = .ok (.aaload, 1) := by decide +kernel
theorem dX6_comer_43 : decode cX6_comer 43 = .ok (.astore_n 3, 1) := by decide +kernel
theorem dX6_comer_44 : decode cX6_comer 44 = .ok (.iload_n 2, 1) := by decide +kernel
theorem dX6_comer_45 : decode cX6_comer 45 = .ok (.bipush 7, 2) := by decide +kernel
theorem dX6_comer_47 : decode cX6_comer 47 = .ok (.if_icmp .ne 18, 3) := by decide +kernel
theorem dX6_comer_50 : decode cX6_comer 50 = .ok (.aload_n 0, 1) := by decide +kernel
theorem dX6_comer_51 : decode cX6_comer 51 = .ok (.getfield 10, 3) := by decide +kernel
theorem dX6_comer_54 : decode cX6_comer 54 = .ok (.aload_n 3, 1) := by decide +kernel
theorem dX6_comer_55 : decode cX6_comer 55 = .ok (.aload_n 3, 1) := by decide +kernel
theorem dX6_comer_56 : decode cX6_comer 56 = .ok (.getfield 80, 3) := by decide +kernel
theorem dX6_comer_59 : decode cX6_comer 59 = .ok (.invokevirtual 85, 3) := by decide +kernel
theorem dX6_comer_62 : decode cX6_comer 62 = .ok (.goto 8, 3) := by decide +kernel
theorem dX6_comer_65 : decode cX6_comer 65 = .ok (.aload_n 3, 1) := by decide +kernel
theorem dX6_comer_66 : decode cX6_comer 66 = .ok (.iload_n 2, 1) := by decide +kernel
theorem dX6_comer_67 : decode cX6_comer 67 = .ok (.invokevirtual 89, 3) := by decide +kernel
theorem dX6_comer_70 : decode cX6_comer 70 = .ok (.ireturn, 1) := by decide +kernel
theorem dX6_kind_0 : decode cX6_kind 0 = .ok (.aload_n 0, 1) := by decide +kernel
theorem dX6_kind_1 : decode cX6_kind 1 = .ok (.getfield 10, 3) := by decide +kernel
theorem dX6_kind_4 : decode cX6_kind 4 = .ok (.iload_n 1, 1) := by decide +kernel
theorem dX6_kind_5 : decode cX6_kind 5 = .ok (.invokevirtual 72, 3) := by decide +kernel
theorem dX6_kind_8 : decode cX6_kind 8 = .ok (.ifCond .ne 9, 3) := by decide +kernel
theorem dX6_kind_11 : decode cX6_kind 11 = .ok (.aload_n 0, 1) := by decide +kernel
theorem dX6_kind_12 : decode cX6_kind 12 = .ok (.iconst (-1), 1) := by decide +kernel
theorem dX6_kind_13 : decode cX6_kind 13 = .ok (.invokevirtual 47, 3) := by decide +kernel
theorem dX6_kind_16 : decode cX6_kind 16 = .ok (.ireturn, 1) := by decide +kernel
theorem dX6_kind_17 : decode cX6_kind 17 = .ok (.iload_n 2, 1) := by decide +kernel
theorem dX6_kind_18 : decode cX6_kind 18 = .ok (.ifCond .lt 9, 3) := by decide +kernel
theorem dX6_kind_21 : decode cX6_kind 21 = .ok (.iload_n 2, 1) := by decide +kernel
theorem dX6_kind_22 : decode cX6_kind 22 = .ok (.bipush 7, 2) := by decide +kernel
theorem dX6_kind_24 : decode cX6_kind 24 = .ok (.if_icmp .lt 10, 3) := by decide +kernel
theorem dX6_kind_27 : decode cX6_kind 27 = .ok (.aload_n 0, 1) := by decide +kernel
theorem dX6_kind_28 : decode cX6_kind 28 = .ok (.bipush (-2), 2) := by decide +kernel
theorem dX6_kind_30 : decode cX6_kind 30 = .ok (.invokevirtual 47, 3) := by decide +kernel
theorem dX6_kind_33 : decode cX6_kind 33 = .ok (.ireturn, 1) := by decide +kernel
theorem dX6_kind_34 : decode cX6_kind 34 = .ok (.iload_n 3, 1) := by decide +kernel
theorem dX6_kind_35 : decode cX6_kind 35 = .ok (.ifCond .ge 10, 3) := by decide +kernel
theorem dX6_kind_38 : decode cX6_kind 38 = .ok (.aload_n 0, 1) := by decide +kernel
theorem dX6_kind_39 : decode cX6_kind 39 = .ok (.bipush (-4), 2) := by decide +kernel
theorem dX6_kind_41 : decode cX6_kind 41 = .ok (.invokevirtual 47, 3) := by decide +kernel
theorem dX6_kind_44 : decode cX6_kind 44 = .ok (.ireturn, 1) := by decide +kernel
theorem dX6_kind_45 : decode cX6_kind 45 = .ok (.iload_n 3, 1) := by decide +kernel
theorem dX6_kind_46 : decode cX6_kind 46 = .ok (.bipush 9, 2) := by decide +kernel
theorem dX6_kind_48 : decode cX6_kind 48 = .ok (.if_icmp .le 10, 3) := by decide +kernel
theorem dX6_kind_51 : decode cX6_kind 51 = .ok (.aload_n 0, 1) := by decide +kernel
theorem dX6_kind_52 : decode cX6_kind 52 = .ok (.bipush (-6), 2) := by decide +kernel
theorem dX6_kind_54 : decode cX6_kind 54 = .ok (.invokevirtual 47, 3) := by decide +kernel
theorem dX6_kind_57 : decode cX6_kind 57 = .ok (.ireturn, 1) := by decide +kernel
theorem dX6_kind_58 : decode cX6_kind 58 = .ok (.aload_n 0, 1) := by decide +kernel
theorem dX6_kind_59 : decode cX6_kind 59 = .ok (.getfield 10, 3) := by decide +kernel
theorem dX6_kind_62 : decode cX6_kind 62 = .ok (.getfield 76, 3) := by decide +kernel
theorem dX6_kind_65 : decode cX6_kind 65 = .ok (.iload_n 1, 1) := by decide +kernel
theorem dX6_kind_66 : decode cX6_kind 66 = .ok (.aaload, 1) := by decide +kernel
theorem dX6_kind_67 : decode cX6_kind 67 = .ok (.astore 4, 2) := by decide +kernel
theorem dX6_kind_69 : decode cX6_kind 69 = .ok (.bipush 10, 2) := by decide +kernel
theorem dX6_kind_71 : decode cX6_kind 71 = .ok (.aload 4, 2) := by decide +kernel
theorem dX6_kind_73 : decode cX6_kind 73 = .ok (.getfield 80, 3) := by decide +kernel
theorem dX6_kind_76 : decode cX6_kind 76 = .ok (.imul, 1) := by decide +kernel
theorem dX6_kind_77 : decode cX6_kind 77 = .ok (.aload 4, 2) := by decide +kernel
theorem dX6_kind_79 : decode cX6_kind 79 = .ok (.getfield 92, 3) := by decide +kernel
theorem dX6_kind_82 : decode cX6_kind 82 = .ok (.iadd, 1) := by decide +kernel
theorem dX6_kind_83 : decode cX6_kind 83 = .ok (.istore 5, 2) := by decide +kernel
theorem dX6_kind_85 : decode cX6_kind 85 = .ok (.aload 4, 2) := by decide +kernel
theorem dX6_kind_87 : decode cX6_kind 87 = .ok (.iload_n 2, 1) := by decide +kernel
theorem dX6_kind_88 : decode cX6_kind 88 = .ok (.iload_n 3, 1) := by decide +kernel
theorem dX6_kind_89 : decode cX6_kind 89 = .ok (.invokevirtual 95, 3) := by decide +kernel
theorem dX6_kind_92 : decode cX6_kind 92 = .ok (.iload 5, 2) := by decide +kernel
theorem dX6_kind_94 : decode cX6_kind 94 = .ok (.ireturn, 1) := by decide +kernel
theorem dX6_kettle_0 : decode cX6_kettle 0 = .ok (.iload_n 1, 1) := by decide +kernel
theorem dX6_kettle_1 : decode cX6_kettle 1 = .ok (.ifCond .lt 14, 3) := by decide +kernel
theorem dX6_kettle_4 : decode cX6_kettle 4 = .ok (.iload_n 1, 1) := by decide +kernel
theorem dX6_kettle_5 : decode cX6_kettle 5 = .ok (.aload_n 0, 1) := by decide +kernel
theorem dX6_kettle_6 : decode cX6_kettle 6 = .ok (.getfield 10, 3) := by decide +kernel
theorem dX6_kettle_9 : decode cX6_kettle 9 = .ok (.invokevirtual 99, 3) := by decide +kernel
theorem dX6_kettle_12 : decode cX6_kettle 12 = .ok (.if_icmp .lt 9, 3) := by decide +kernel
theorem dX6_kettle_15 : decode cX6_kettle 15 = .ok (.aload_n 0, 1) := by decide +kernel
theorem dX6_kettle_16 : decode cX6_kettle 16 = .ok (.iconst (-1), 1) := by decide +kernel
theorem dX6_kettle_17 : decode cX6_kettle 17 = .ok (.invokevirtual 47, 3) := by decide +kernel
theorem dX6_kettle_20 : decode cX6_kettle 20 = .ok (.ireturn, 1) := by decide +kernel
theorem dX6_kettle_21 : decode cX6_kettle 21 = .ok (.iload_n 2, 1) := by decide +kernel
theorem dX6_kettle_22 : decode cX6_kettle 22 = .ok (.ifCond .lt 8, 3) := by decide +kernel
theorem dX6_kettle_25 : decode cX6_kettle 25 = .ok (.iload_n 2, 1) := by decide +kernel
theorem dX6_kettle_26 : decode cX6_kettle 26 = .ok (.iconst 3, 1) := by decide +kernel
theorem dX6_kettle_27 : decode cX6_kettle 27 = .ok (.if_icmp .le 10, 3) := by decide +kernel
theorem dX6_kettle_30 : decode cX6_kettle 30 = .ok (.aload_n 0, 1) := by decide +kernel
theorem dX6_kettle_31 : decode cX6_kettle 31 = .ok (.bipush (-2), 2) := by decide +kernel
theorem dX6_kettle_33 : decode cX6_kettle 33 = .ok (.invokevirtual 47, 3) := by decide +kernel
theorem dX6_kettle_36 : decode cX6_kettle 36 = .ok (.ireturn, 1) := by decide +kernel
theorem dX6_kettle_37 : decode cX6_kettle 37 = .ok (.aload_n 0, 1) := by decide +kernel
theorem dX6_kettle_38 : decode cX6_kettle 38 = .ok (.getfield 10, 3) := by decide +kernel
theorem dX6_kettle_41 : decode cX6_kettle 41 = .ok (.getfield 103, 3) := by decide +kernel
theorem dX6_kettle_44 : decode cX6_kettle 44 = .ok (.iload_n 1, 1) := by decide +kernel
theorem dX6_kettle_45 : decode cX6_kettle 45 = .ok (.aaload, 1) := by decide +kernel
theorem dX6_kettle_46 : decode cX6_kettle 46 = .ok (.iload_n 2, 1) := by decide +kernel
theorem dX6_kettle_47 : decode cX6_kettle 47 = .ok (.aload_n 0, 1) := by decide +kernel
theorem dX6_kettle_48 : decode cX6_kettle 48 = .ok (.getfield 10, 3) := by decide +kernel
theorem dX6_kettle_51 : decode cX6_kettle 51 = .ok (.getfield 107, 3) := by decide +kernel
theorem dX6_kettle_54 : decode cX6_kettle 54 = .ok (.invokevirtual 110, 3) := by decide +kernel
theorem dX6_kettle_57 : decode cX6_kettle 57 = .ok (.ireturn, 1) := by decide +kernel
theorem dX6_set_0 : decode cX6_set 0 = .ok (.aload_n 0, 1) := by decide +kernel
theorem dX6_set_1 : decode cX6_set 1 = .ok (.getfield 10, 3) := by decide +kernel
theorem dX6_set_4 : decode cX6_set 4 = .ok (.iload_n 1, 1) := by decide +kernel
theorem dX6_set_5 : decode cX6_set 5 = .ok (.iload_n 2, 1) := by decide +kernel
theorem dX6_set_6 : decode cX6_set 6 = .ok (.invokevirtual 115, 3) := by decide +kernel
theorem dX6_set_9 : decode cX6_set 9 = .ok (.istore_n 3, 1) := by decide +kernel
theorem dX6_set_10 : decode cX6_set 10 = .ok (.iload_n 3, 1) := by decide +kernel
theorem dX6_set_11 : decode cX6_set 11 = .ok (.ifCond .eq 11, 3) := by decide +kernel
theorem dX6_set_14 : decode cX6_set 14 = .ok (.aload_n 0, 1) := by decide +kernel
theorem dX6_set_15 : decode cX6_set 15 = .ok (.iload_n 3, 1) := by decide +kernel
theorem dX6_set_16 : decode cX6_set 16 = .ok (.invokevirtual 47, 3) := by decide +kernel
theorem dX6_set_19 : decode cX6_set 19 = .ok (.goto 12, 3) := by decide +kernel
theorem dX6_set_22 : decode cX6_set 22 = .ok (.aload_n 0, 1) := by decide +kernel
theorem dX6_set_23 : decode cX6_set 23 = .ok (.getfield 10, 3) := by decide +kernel
theorem dX6_set_26 : decode cX6_set 26 = .ok (.iload_n 1, 1) := by decide +kernel
theorem dX6_set_27 : decode cX6_set 27 = .ok (.iload_n 2, 1) := by decide +kernel
theorem dX6_set_28 : decode cX6_set 28 = .ok (.invokevirtual 118, 3) := by decide +kernel
theorem dX6_set_31 : decode cX6_set 31 = .ok (.ireturn, 1) := by decide +kernel
theorem dX6_go_0 : decode cX6_go 0 = .ok (.iload_n 1, 1) := by decide +kernel
theorem dX6_go_1 : decode cX6_go 1 = .ok (.iconst 1, 1) := by decide +kernel
theorem dX6_go_2 : decode cX6_go 2 = .ok (.if_icmp .ge 10, 3) := by decide +kernel
theorem dX6_go_5 : decode cX6_go 5 = .ok (.aload_n 0, 1) := by decide +kernel
theorem dX6_go_6 : decode cX6_go 6 = .ok (.bipush (-4), 2) := by decide +kernel
theorem dX6_go_8 : decode cX6_go 8 = .ok (.invokevirtual 47, 3) := by decide +kernel
theorem dX6_go_11 : decode cX6_go 11 = .ok (.ireturn, 1) := by decide +kernel
theorem dX6_go_12 : decode cX6_go 12 = .ok (.iload_n 1, 1) := by decide +kernel
theorem dX6_go_13 : decode cX6_go 13 = .ok (.bipush 60, 2) := by decide +kernel
theorem dX6_go_15 : decode cX6_go 15 = .ok (.if_icmp .le 10, 3) := by decide +kernel
theorem dX6_go_18 : decode cX6_go 18 = .ok (.aload_n 0, 1) := by decide +kernel
theorem dX6_go_19 : decode cX6_go 19 = .ok (.bipush (-6), 2) := by decide +kernel
theorem dX6_go_21 : decode cX6_go 21 = .ok (.invokevirtual 47, 3) := by decide +kernel
theorem dX6_go_24 : decode cX6_go 24 = .ok (.ireturn, 1) := by decide +kernel
theorem dX6_go_25 : decode cX6_go 25 = .ok (.aload_n 0, 1) := by decide +kernel
theorem dX6_go_26 : decode cX6_go 26 = .ok (.getfield 10, 3) := by decide +kernel
theorem dX6_go_29 : decode cX6_go 29 = .ok (.invokevirtual 121, 3) := by decide +kernel
theorem dX6_go_32 : decode cX6_go 32 = .ok (.ifCond .eq 10, 3) := by decide +kernel
theorem dX6_go_35 : decode cX6_go 35 = .ok (.aload_n 0, 1) := by decide +kernel
theorem dX6_go_36 : decode cX6_go 36 = .ok (.bipush (-3), 2) := by decide +kernel
theorem dX6_go_38 : decode cX6_go 38 = .ok (.invokevirtual 47, 3) := by decide +kernel
theorem dX6_go_41 : decode cX6_go 41 = .ok (.ireturn, 1) := by decide +kernel
theorem dX6_go_42 : decode cX6_go 42 = .ok (.aload_n 0, 1) := by decide +kernel
theorem dX6_go_43 : decode cX6_go 43 = .ok (.getfield 10, 3) := by decide +kernel
theorem dX6_go_46 : decode cX6_go 46 = .ok (.iload_n 1, 1) := by decide +kernel
theorem dX6_go_47 : decode cX6_go 47 = .ok (.invokevirtual 125, 3) := by decide +kernel
theorem dX6_go_50 : decode cX6_go 50 = .ok (.aload_n 0, 1) := by decide +kernel
theorem dX6_go_51 : decode cX6_go 51 = .ok (.getfield 10, 3) := by decide +kernel
theorem dX6_go_54 : decode cX6_go 54 = .ok (.getfield 107, 3) := by decide +kernel
theorem dX6_go_57 : decode cX6_go 57 = .ok (.ireturn, 1) := by decide +kernel
theorem dX6_anew_0 : decode cX6_anew 0 = .ok (.aload_n 0, 1) := by decide +kernel
theorem dX6_anew_1 : decode cX6_anew 1 = .ok (.getfield 10, 3) := by decide +kernel
theorem dX6_anew_4 : decode cX6_anew 4 = .ok (.getfield 107, 3) := by decide +kernel
theorem dX6_anew_7 : decode cX6_anew 7 = .ok (.istore_n 1, 1) := by decide +kernel
theorem dX6_anew_8 : decode cX6_anew 8 = .ok (.aload_n 0, 1) := by decide +kernel
theorem dX6_anew_9 : decode cX6_anew 9 = .ok (.getfield 10, 3) := by decide +kernel
theorem dX6_anew_12 : decode cX6_anew 12 = .ok (.invokevirtual 129, 3) := by decide +kernel
theorem dX6_anew_15 : decode cX6_anew 15 = .ok (.iload_n 1, 1) := by decide +kernel
theorem dX6_anew_16 : decode cX6_anew 16 = .ok (.ireturn, 1) := by decide +kernel
theorem dX6_line_0 : decode cX6_line 0 = .ok (.iload_n 1, 1) := by decide +kernel
theorem dX6_line_1 : decode cX6_line 1 = .ok (.ifCond .ge 10, 3) := by decide +kernel
theorem dX6_line_4 : decode cX6_line 4 = .ok (.aload_n 0, 1) := by decide +kernel
theorem dX6_line_5 : decode cX6_line 5 = .ok (.bipush (-4), 2) := by decide +kernel
theorem dX6_line_7 : decode cX6_line 7 = .ok (.invokevirtual 47, 3) := by decide +kernel
theorem dX6_line_10 : decode cX6_line 10 = .ok (.ireturn, 1) := by decide +kernel
theorem dX6_line_11 : decode cX6_line 11 = .ok (.iload_n 1, 1) := by decide +kernel
theorem dX6_line_12 : decode cX6_line 12 = .ok (.aload_n 0, 1) := by decide +kernel
theorem dX6_line_13 : decode cX6_line 13 = .ok (.getfield 10, 3) := by decide +kernel
theorem dX6_line_16 : decode cX6_line 16 = .ok (.getfield 132, 3) := by decide +kernel
theorem dX6_line_19 : decode cX6_line 19 = .ok (.if_icmp .ge 15, 3) := by decide +kernel
theorem dX6_line_22 : decode cX6_line 22 = .ok (.aload_n 0, 1) := by decide +kernel
theorem dX6_line_23 : decode cX6_line 23 = .ok (.getfield 10, 3) := by decide +kernel
theorem dX6_line_26 : decode cX6_line 26 = .ok (.getfield 135, 3) := by decide +kernel
theorem dX6_line_29 : decode cX6_line 29 = .ok (.iload_n 1, 1) := by decide +kernel
theorem dX6_line_30 : decode cX6_line 30 = .ok (.iaload, 1) := by decide +kernel
theorem dX6_line_31 : decode cX6_line 31 = .ok (.goto 5, 3) := by decide +kernel
theorem dX6_line_34 : decode cX6_line 34 = .ok (.bipush (-9), 2) := by decide +kernel
theorem dX6_line_36 : decode cX6_line 36 = .ok (.ireturn, 1) := by decide +kernel
theorem dX6_rest_0 : decode cX6_rest 0 = .ok (.iload_n 1, 1) := by decide +kernel
theorem dX6_rest_1 : decode cX6_rest 1 = .ok (.ifCond .lt 8, 3) := by decide +kernel
theorem dX6_rest_4 : decode cX6_rest 4 = .ok (.iload_n 1, 1) := by decide +kernel
theorem dX6_rest_5 : decode cX6_rest 5 = .ok (.iconst 4, 1) := by decide +kernel
theorem dX6_rest_6 : decode cX6_rest 6 = .ok (.if_icmp .le 10, 3) := by decide +kernel
theorem dX6_rest_9 : decode cX6_rest 9 = .ok (.aload_n 0, 1) := by decide +kernel
theorem dX6_rest_10 : decode cX6_rest 10 = .ok (.bipush (-2), 2) := by decide +kernel
theorem dX6_rest_12 : decode cX6_rest 12 = .ok (.invokevirtual 47, 3) := by decide +kernel
theorem dX6_rest_15 : decode cX6_rest 15 = .ok (.ireturn, 1) := by decide +kernel
theorem dX6_rest_16 : decode cX6_rest 16 = .ok (.aload_n 0, 1) := by decide +kernel
theorem dX6_rest_17 : decode cX6_rest 17 = .ok (.getfield 22, 3) := by decide +kernel
theorem dX6_rest_20 : decode cX6_rest 20 = .ok (.aload_n 0, 1) := by decide +kernel
theorem dX6_rest_21 : decode cX6_rest 21 = .ok (.getfield 10, 3) := by decide +kernel
theorem dX6_rest_24 : decode cX6_rest 24 = .ok (.invokevirtual 58, 3) := by decide +kernel
theorem dX6_rest_27 : decode cX6_rest 27 = .ok (.aload_n 0, 1) := by decide +kernel
theorem dX6_rest_28 : decode cX6_rest 28 = .ok (.getfield 22, 3) := by decide +kernel
theorem dX6_rest_31 : decode cX6_rest 31 = .ok (.iload_n 1, 1) := by decide +kernel
theorem dX6_rest_32 : decode cX6_rest 32 = .ok (.invokevirtual 138, 3) := by decide +kernel
theorem dX6_rest_35 : decode cX6_rest 35 = .ok (.ireturn, 1) := by decide +kernel
theorem dX6_when_0 : decode cX6_when 0 = .ok (.aload_n 0, 1) := by decide +kernel
theorem dX6_when_1 : decode cX6_when 1 = .ok (.getfield 10, 3) := by decide +kernel
theorem dX6_when_4 : decode cX6_when 4 = .ok (.iload_n 1, 1) := by decide +kernel
theorem dX6_when_5 : decode cX6_when 5 = .ok (.invokevirtual 72, 3) := by decide +kernel
theorem dX6_when_8 : decode cX6_when 8 = .ok (.ifCond .ne 9, 3) := by decide +kernel
theorem dX6_when_11 : decode cX6_when 11 = .ok (.aload_n 0, 1) := by decide +kernel
theorem dX6_when_12 : decode cX6_when 12 = .ok (.iconst (-1), 1) := by decide +kernel
theorem dX6_when_13 : decode cX6_when 13 = .ok (.invokevirtual 47, 3) := by decide +kernel
theorem dX6_when_16 : decode cX6_when 16 = .ok (.ireturn, 1) := by decide +kernel
theorem dX6_when_17 : decode cX6_when 17 = .ok (.aload_n 0, 1) := by decide +kernel
theorem dX6_when_18 : decode cX6_when 18 = .ok (.getfield 22, 3) := by decide +kernel
theorem dX6_when_21 : decode cX6_when 21 = .ok (.aload_n 0, 1) := by decide +kernel
theorem dX6_when_22 : decode cX6_when 22 = .ok (.getfield 10, 3) := by decide +kernel
theorem dX6_when_25 : decode cX6_when 25 = .ok (.invokevirtual 58, 3) := by decide +kernel
theorem dX6_when_28 : decode cX6_when 28 = .ok (.aload_n 0, 1) := by decide +kernel
theorem dX6_when_29 : decode cX6_when 29 = .ok (.getfield 22, 3) := by decide +kernel
theorem dX6_when_32 : decode cX6_when 32 = .ok (.iload_n 1, 1) := by decide +kernel
theorem dX6_when_33 : decode cX6_when 33 = .ok (.invokevirtual 141, 3) := by decide +kernel
theorem dX6_when_36 : decode cX6_when 36 = .ok (.ireturn, 1) := by decide +kernel
theorem dX6_best_0 : decode cX6_best 0 = .ok (.aload_n 0, 1) := by decide +kernel
theorem dX6_best_1 : decode cX6_best 1 = .ok (.getfield 10, 3) := by decide +kernel
theorem dX6_best_4 : decode cX6_best 4 = .ok (.iload_n 1, 1) := by decide +kernel
theorem dX6_best_5 : decode cX6_best 5 = .ok (.invokevirtual 72, 3) := by decide +kernel
theorem dX6_best_8 : decode cX6_best 8 = .ok (.ifCond .ne 9, 3) := by decide +kernel
theorem dX6_best_11 : decode cX6_best 11 = .ok (.aload_n 0, 1) := by decide +kernel
theorem dX6_best_12 : decode cX6_best 12 = .ok (.iconst (-1), 1) := by decide +kernel
theorem dX6_best_13 : decode cX6_best 13 = .ok (.invokevirtual 47, 3) := by decide +kernel
theorem dX6_best_16 : decode cX6_best 16 = .ok (.ireturn, 1) := by decide +kernel
theorem dX6_best_17 : decode cX6_best 17 = .ok (.iload_n 2, 1) := by decide +kernel
theorem dX6_best_18 : decode cX6_best 18 = .ok (.ifCond .eq 15, 3) := by decide +kernel
theorem dX6_best_21 : decode cX6_best 21 = .ok (.iload_n 2, 1) := by decide +kernel
theorem dX6_best_22 : decode cX6_best 22 = .ok (.iconst 1, 1) := by decide +kernel
theorem dX6_best_23 : decode cX6_best 23 = .ok (.if_icmp .eq 10, 3) := by decide +kernel
theorem dX6_best_26 : decode cX6_best 26 = .ok (.aload_n 0, 1) := by decide +kernel
theorem dX6_best_27 : decode cX6_best 27 = .ok (.bipush (-2), 2) := by decide +kernel
theorem dX6_best_29 : decode cX6_best 29 = .ok (.invokevirtual 47, 3) := by decide +kernel
theorem dX6_best_32 : decode cX6_best 32 = .ok (.ireturn, 1) := by decide +kernel
theorem dX6_best_33 : decode cX6_best 33 = .ok (.aload_n 0, 1) := by decide +kernel
theorem dX6_best_34 : decode cX6_best 34 = .ok (.getfield 22, 3) := by decide +kernel
theorem dX6_best_37 : decode cX6_best 37 = .ok (.aload_n 0, 1) := by decide +kernel
theorem dX6_best_38 : decode cX6_best 38 = .ok (.getfield 10, 3) := by decide +kernel
theorem dX6_best_41 : decode cX6_best 41 = .ok (.invokevirtual 58, 3) := by decide +kernel
theorem dX6_best_44 : decode cX6_best 44 = .ok (.aload_n 0, 1) := by decide +kernel
theorem dX6_best_45 : decode cX6_best 45 = .ok (.getfield 22, 3) := by decide +kernel
theorem dX6_best_48 : decode cX6_best 48 = .ok (.iload_n 1, 1) := by decide +kernel
theorem dX6_best_49 : decode cX6_best 49 = .ok (.iload_n 2, 1) := by decide +kernel
theorem dX6_best_50 : decode cX6_best 50 = .ok (.ifCond .ne 7, 3) := by decide +kernel
theorem dX6_best_53 : decode cX6_best 53 = .ok (.iconst 1, 1) := by decide +kernel
theorem dX6_best_54 : decode cX6_best 54 = .ok (.goto 4, 3) := by decide +kernel
theorem dX6_best_57 : decode cX6_best 57 = .ok (.iconst 0, 1) := by decide +kernel
theorem dX6_best_58 : decode cX6_best 58 = .ok (.invokevirtual 144, 3) := by decide +kernel
theorem dX6_best_61 : decode cX6_best 61 = .ok (.ireturn, 1) := by decide +kernel
theorem dX6_rounds_0 : decode cX6_rounds 0 = .ok (.iload_n 1, 1) := by decide +kernel
theorem dX6_rounds_1 : decode cX6_rounds 1 = .ok (.ifCond .lt 8, 3) := by decide +kernel
theorem dX6_rounds_4 : decode cX6_rounds 4 = .ok (.iload_n 1, 1) := by decide +kernel
theorem dX6_rounds_5 : decode cX6_rounds 5 = .ok (.iconst 3, 1) := by decide +kernel
theorem dX6_rounds_6 : decode cX6_rounds 6 = .ok (.if_icmp .le 13, 3) := by decide +kernel
theorem dX6_rounds_9 : decode cX6_rounds 9 = .ok (.ldc 148, 2) := by decide +kernel
theorem dX6_rounds_11 : decode cX6_rounds 11 = .ok (.aload_n 0, 1) := by decide +kernel
theorem dX6_rounds_12 : decode cX6_rounds 12 = .ok (.bipush (-2), 2) := by decide +kernel
theorem dX6_rounds_14 : decode cX6_rounds 14 = .ok (.invokevirtual 47, 3) := by decide +kernel
theorem dX6_rounds_17 : decode cX6_rounds 17 = .ok (.isub, 1) := by decide +kernel
theorem dX6_rounds_18 : decode cX6_rounds 18 = .ok (.ireturn, 1) := by decide +kernel
theorem dX6_rounds_19 : decode cX6_rounds 19 = .ok (.aload_n 0, 1) := by decide +kernel
theorem dX6_rounds_20 : decode cX6_rounds 20 = .ok (.getfield 22, 3) := by decide +kernel
theorem dX6_rounds_23 : decode cX6_rounds 23 = .ok (.aload_n 0, 1) := by decide +kernel
theorem dX6_rounds_24 : decode cX6_rounds 24 = .ok (.getfield 10, 3) := by decide +kernel
theorem dX6_rounds_27 : decode cX6_rounds 27 = .ok (.invokevirtual 58, 3) := by decide +kernel
theorem dX6_rounds_30 : decode cX6_rounds 30 = .ok (.aload_n 0, 1) := by decide +kernel
theorem dX6_rounds_31 : decode cX6_rounds 31 = .ok (.getfield 22, 3) := by decide +kernel
theorem dX6_rounds_34 : decode cX6_rounds 34 = .ok (.invokevirtual 149, 3) := by decide +kernel
theorem dX6_rounds_37 : decode cX6_rounds 37 = .ok (.istore_n 2, 1) := by decide +kernel
theorem dX6_rounds_38 : decode cX6_rounds 38 = .ok (.iload_n 1, 1) := by decide +kernel
theorem dX6_rounds_39 : decode cX6_rounds 39 = .ok (.ifCond .ne 5, 3) := by decide +kernel
theorem dX6_rounds_42 : decode cX6_rounds 42 = .ok (.iload_n 2, 1) := by decide +kernel
theorem dX6_rounds_43 : decode cX6_rounds 43 = .ok (.ireturn, 1) := by decide +kernel
theorem dX6_rounds_44 : decode cX6_rounds 44 = .ok (.iload_n 1, 1) := by decide +kernel
theorem dX6_rounds_45 : decode cX6_rounds 45 = .ok (.iconst 1, 1) := by decide +kernel
theorem dX6_rounds_46 : decode cX6_rounds 46 = .ok (.if_icmp .ne 11, 3) := by decide +kernel
theorem dX6_rounds_49 : decode cX6_rounds 49 = .ok (.aload_n 0, 1) := by decide +kernel
theorem dX6_rounds_50 : decode cX6_rounds 50 = .ok (.getfield 22, 3) := by decide +kernel
theorem dX6_rounds_53 : decode cX6_rounds 53 = .ok (.invokevirtual 152, 3) := by decide +kernel
theorem dX6_rounds_56 : decode cX6_rounds 56 = .ok (.ireturn, 1) := by decide +kernel
theorem dX6_rounds_57 : decode cX6_rounds 57 = .ok (.iload_n 1, 1) := by decide +kernel
theorem dX6_rounds_58 : decode cX6_rounds 58 = .ok (.iconst 2, 1) := by decide +kernel
theorem dX6_rounds_59 : decode cX6_rounds 59 = .ok (.if_icmp .ne 13, 3) := by decide +kernel
theorem dX6_rounds_62 : decode cX6_rounds 62 = .ok (.aload_n 0, 1) := by decide +kernel
theorem dX6_rounds_63 : decode cX6_rounds 63 = .ok (.getfield 22, 3) := by decide +kernel
theorem dX6_rounds_66 : decode cX6_rounds 66 = .ok (.invokevirtual 155, 3) := by decide +kernel
theorem dX6_rounds_69 : decode cX6_rounds 69 = .ok (.goto 10, 3) := by decide +kernel
theorem dX6_rounds_72 : decode cX6_rounds 72 = .ok (.aload_n 0, 1) := by decide +kernel
theorem dX6_rounds_73 : decode cX6_rounds 73 = .ok (.getfield 22, 3) := by decide +kernel
theorem dX6_rounds_76 : decode cX6_rounds 76 = .ok (.invokevirtual 158, 3) := by decide +kernel
theorem dX6_rounds_79 : decode cX6_rounds 79 = .ok (.ireturn, 1) := by decide +kernel
theorem dX6_marks_0 : decode cX6_marks 0 = .ok (.iload_n 1, 1) := by decide +kernel
theorem dX6_marks_1 : decode cX6_marks 1 = .ok (.ifCond .eq 15, 3) := by decide +kernel
theorem dX6_marks_4 : decode cX6_marks 4 = .ok (.iload_n 1, 1) := by decide +kernel
theorem dX6_marks_5 : decode cX6_marks 5 = .ok (.iconst 1, 1) := by decide +kernel
theorem dX6_marks_6 : decode cX6_marks 6 = .ok (.if_icmp .eq 10, 3) := by decide +kernel
theorem dX6_marks_9 : decode cX6_marks 9 = .ok (.aload_n 0, 1) := by decide +kernel
theorem dX6_marks_10 : decode cX6_marks 10 = .ok (.bipush (-2), 2) := by decide +kernel
theorem dX6_marks_12 : decode cX6_marks 12 = .ok (.invokevirtual 47, 3) := by decide +kernel
theorem dX6_marks_15 : decode cX6_marks 15 = .ok (.ireturn, 1) := by decide +kernel
theorem dX6_marks_16 : decode cX6_marks 16 = .ok (.aload_n 0, 1) := by decide +kernel
theorem dX6_marks_17 : decode cX6_marks 17 = .ok (.getfield 22, 3) := by decide +kernel
theorem dX6_marks_20 : decode cX6_marks 20 = .ok (.aload_n 0, 1) := by decide +kernel
theorem dX6_marks_21 : decode cX6_marks 21 = .ok (.getfield 10, 3) := by decide +kernel
theorem dX6_marks_24 : decode cX6_marks 24 = .ok (.invokevirtual 58, 3) := by decide +kernel
theorem dX6_marks_27 : decode cX6_marks 27 = .ok (.aload_n 0, 1) := by decide +kernel
theorem dX6_marks_28 : decode cX6_marks 28 = .ok (.getfield 22, 3) := by decide +kernel
theorem dX6_marks_31 : decode cX6_marks 31 = .ok (.iload_n 1, 1) := by decide +kernel
theorem dX6_marks_32 : decode cX6_marks 32 = .ok (.ifCond .ne 7, 3) := by decide +kernel
theorem dX6_marks_35 : decode cX6_marks 35 = .ok (.iconst 1, 1) := by decide +kernel
theorem dX6_marks_36 : decode cX6_marks 36 = .ok (.goto 4, 3) := by decide +kernel
theorem dX6_marks_39 : decode cX6_marks 39 = .ok (.iconst 0, 1) := by decide +kernel
theorem dX6_marks_40 : decode cX6_marks 40 = .ok (.invokevirtual 161, 3) := by decide +kernel
theorem dX6_marks_43 : decode cX6_marks 43 = .ok (.ireturn, 1) := by decide +kernel
theorem dX6_second_0 : decode cX6_second 0 = .ok (.aload_n 0, 1) := by decide +kernel
theorem dX6_second_1 : decode cX6_second 1 = .ok (.getfield 22, 3) := by decide +kernel
theorem dX6_second_4 : decode cX6_second 4 = .ok (.aload_n 0, 1) := by decide +kernel
theorem dX6_second_5 : decode cX6_second 5 = .ok (.getfield 10, 3) := by decide +kernel
theorem dX6_second_8 : decode cX6_second 8 = .ok (.invokevirtual 58, 3) := by decide +kernel
theorem dX6_second_11 : decode cX6_second 11 = .ok (.aload_n 0, 1) := by decide +kernel
theorem dX6_second_12 : decode cX6_second 12 = .ok (.getfield 22, 3) := by decide +kernel
theorem dX6_second_15 : decode cX6_second 15 = .ok (.invokevirtual 165, 3) := by decide +kernel
theorem dX6_second_18 : decode cX6_second 18 = .ok (.ireturn, 1) := by decide +kernel
theorem dX6_urn_0 : decode cX6_urn 0 = .ok (.iload_n 1, 1) := by decide +kernel
theorem dX6_urn_1 : decode cX6_urn 1 = .ok (.ifCond .ge 10, 3) := by decide +kernel
theorem dX6_urn_4 : decode cX6_urn 4 = .ok (.aload_n 0, 1) := by decide +kernel
theorem dX6_urn_5 : decode cX6_urn 5 = .ok (.bipush (-4), 2) := by decide +kernel
theorem dX6_urn_7 : decode cX6_urn 7 = .ok (.invokevirtual 47, 3) := by decide +kernel
theorem dX6_urn_10 : decode cX6_urn 10 = .ok (.ireturn, 1) := by decide +kernel
theorem dX6_urn_11 : decode cX6_urn 11 = .ok (.iload_n 1, 1) := by decide +kernel
theorem dX6_urn_12 : decode cX6_urn 12 = .ok (.bipush 99, 2) := by decide +kernel
theorem dX6_urn_14 : decode cX6_urn 14 = .ok (.if_icmp .le 10, 3) := by decide +kernel
theorem dX6_urn_17 : decode cX6_urn 17 = .ok (.aload_n 0, 1) := by decide +kernel
theorem dX6_urn_18 : decode cX6_urn 18 = .ok (.bipush (-6), 2) := by decide +kernel
theorem dX6_urn_20 : decode cX6_urn 20 = .ok (.invokevirtual 47, 3) := by decide +kernel
theorem dX6_urn_23 : decode cX6_urn 23 = .ok (.ireturn, 1) := by decide +kernel
theorem dX6_urn_24 : decode cX6_urn 24 = .ok (.aload_n 0, 1) := by decide +kernel
theorem dX6_urn_25 : decode cX6_urn 25 = .ok (.getfield 22, 3) := by decide +kernel
theorem dX6_urn_28 : decode cX6_urn 28 = .ok (.aload_n 0, 1) := by decide +kernel
theorem dX6_urn_29 : decode cX6_urn 29 = .ok (.getfield 10, 3) := by decide +kernel
theorem dX6_urn_32 : decode cX6_urn 32 = .ok (.invokevirtual 58, 3) := by decide +kernel
theorem dX6_urn_35 : decode cX6_urn 35 = .ok (.aload_n 0, 1) := by decide +kernel
theorem dX6_urn_36 : decode cX6_urn 36 = .ok (.getfield 29, 3) := by decide +kernel
theorem dX6_urn_39 : decode cX6_urn 39 = .ok (.aload_n 0, 1) := by decide +kernel
theorem dX6_urn_40 : decode cX6_urn 40 = .ok (.getfield 10, 3) := by decide +kernel
theorem dX6_urn_43 : decode cX6_urn 43 = .ok (.invokevirtual 168, 3) := by decide +kernel
theorem dX6_urn_46 : decode cX6_urn 46 = .ok (.aload_n 0, 1) := by decide +kernel
theorem dX6_urn_47 : decode cX6_urn 47 = .ok (.getfield 29, 3) := by decide +kernel
theorem dX6_urn_50 : decode cX6_urn 50 = .ok (.invokevirtual 169, 3) := by decide +kernel
theorem dX6_urn_53 : decode cX6_urn 53 = .ok (.iload_n 1, 1) := by decide +kernel
theorem dX6_urn_54 : decode cX6_urn 54 = .ok (.imul, 1) := by decide +kernel
theorem dX6_urn_55 : decode cX6_urn 55 = .ok (.aload_n 0, 1) := by decide +kernel
theorem dX6_urn_56 : decode cX6_urn 56 = .ok (.getfield 22, 3) := by decide +kernel
theorem dX6_urn_59 : decode cX6_urn 59 = .ok (.invokevirtual 155, 3) := by decide +kernel
theorem dX6_urn_62 : decode cX6_urn 62 = .ok (.if_icmp .ge 7, 3) := by decide +kernel
theorem dX6_urn_65 : decode cX6_urn 65 = .ok (.iconst 1, 1) := by decide +kernel
theorem dX6_urn_66 : decode cX6_urn 66 = .ok (.goto 4, 3) := by decide +kernel
theorem dX6_urn_69 : decode cX6_urn 69 = .ok (.iconst 0, 1) := by decide +kernel
theorem dX6_urn_70 : decode cX6_urn 70 = .ok (.ireturn, 1) := by decide +kernel
theorem dX6_least_0 : decode cX6_least 0 = .ok (.iload_n 1, 1) := by decide +kernel
theorem dX6_least_1 : decode cX6_least 1 = .ok (.ifCond .eq 15, 3) := by decide +kernel
theorem dX6_least_4 : decode cX6_least 4 = .ok (.iload_n 1, 1) := by decide +kernel
theorem dX6_least_5 : decode cX6_least 5 = .ok (.iconst 1, 1) := by decide +kernel
theorem dX6_least_6 : decode cX6_least 6 = .ok (.if_icmp .eq 10, 3) := by decide +kernel
theorem dX6_least_9 : decode cX6_least 9 = .ok (.aload_n 0, 1) := by decide +kernel
theorem dX6_least_10 : decode cX6_least 10 = .ok (.bipush (-2), 2) := by decide +kernel
theorem dX6_least_12 : decode cX6_least 12 = .ok (.invokevirtual 47, 3) := by decide +kernel
theorem dX6_least_15 : decode cX6_least 15 = .ok (.ireturn, 1) := by decide +kernel
theorem dX6_least_16 : decode cX6_least 16 = .ok (.aload_n 0, 1) := by decide +kernel
theorem dX6_least_17 : decode cX6_least 17 = .ok (.getfield 10, 3) := by decide +kernel
theorem dX6_least_20 : decode cX6_least 20 = .ok (.invokevirtual 172, 3) := by decide +kernel
theorem dX6_least_23 : decode cX6_least 23 = .ok (.ifCond .eq 10, 3) := by decide +kernel
theorem dX6_least_26 : decode cX6_least 26 = .ok (.aload_n 0, 1) := by decide +kernel
theorem dX6_least_27 : decode cX6_least 27 = .ok (.bipush (-3), 2) := by decide +kernel
theorem dX6_least_29 : decode cX6_least 29 = .ok (.invokevirtual 47, 3) := by decide +kernel
theorem dX6_least_32 : decode cX6_least 32 = .ok (.ireturn, 1) := by decide +kernel
theorem dX6_least_33 : decode cX6_least 33 = .ok (.aload_n 0, 1) := by decide +kernel
theorem dX6_least_34 : decode cX6_least 34 = .ok (.getfield 29, 3) := by decide +kernel
theorem dX6_least_37 : decode cX6_least 37 = .ok (.aload_n 0, 1) := by decide +kernel
theorem dX6_least_38 : decode cX6_least 38 = .ok (.getfield 10, 3) := by decide +kernel
theorem dX6_least_41 : decode cX6_least 41 = .ok (.invokevirtual 168, 3) := by decide +kernel
theorem dX6_least_44 : decode cX6_least 44 = .ok (.aload_n 0, 1) := by decide +kernel
theorem dX6_least_45 : decode cX6_least 45 = .ok (.getfield 29, 3) := by decide +kernel
theorem dX6_least_48 : decode cX6_least 48 = .ok (.aload_n 0, 1) := by decide +kernel
theorem dX6_least_49 : decode cX6_least 49 = .ok (.getfield 10, 3) := by decide +kernel
theorem dX6_least_52 : decode cX6_least 52 = .ok (.iload_n 1, 1) := by decide +kernel
theorem dX6_least_53 : decode cX6_least 53 = .ok (.ifCond .ne 7, 3) := by decide +kernel
theorem dX6_least_56 : decode cX6_least 56 = .ok (.iconst 1, 1) := by decide +kernel
theorem dX6_least_57 : decode cX6_least 57 = .ok (.goto 4, 3) := by decide +kernel
theorem dX6_least_60 : decode cX6_least 60 = .ok (.iconst 0, 1) := by decide +kernel
theorem dX6_least_61 : decode cX6_least 61 = .ok (.invokevirtual 175, 3) := by decide +kernel
theorem dX6_least_64 : decode cX6_least 64 = .ok (.ireturn, 1) := by decide +kernel
theorem dX6_ferry_0 : decode cX6_ferry 0 = .ok (.iload_n 1, 1) := by decide +kernel
theorem dX6_ferry_1 : decode cX6_ferry 1 = .ok (.iconst 1, 1) := by decide +kernel
theorem dX6_ferry_2 : decode cX6_ferry 2 = .ok (.if_icmp .lt 7, 3) := by decide +kernel
theorem dX6_ferry_5 : decode cX6_ferry 5 = .ok (.iload_n 2, 1) := by decide +kernel
theorem dX6_ferry_6 : decode cX6_ferry 6 = .ok (.ifCond .ge 10, 3) := by decide +kernel
theorem dX6_ferry_9 : decode cX6_ferry 9 = .ok (.aload_n 0, 1) := by decide +kernel
theorem dX6_ferry_10 : decode cX6_ferry 10 = .ok (.bipush (-4), 2) := by decide +kernel
theorem dX6_ferry_12 : decode cX6_ferry 12 = .ok (.invokevirtual 47, 3) := by decide +kernel
theorem dX6_ferry_15 : decode cX6_ferry 15 = .ok (.ireturn, 1) := by decide +kernel
theorem dX6_ferry_16 : decode cX6_ferry 16 = .ok (.iload_n 1, 1) := by decide +kernel
theorem dX6_ferry_17 : decode cX6_ferry 17 = .ok (.bipush 8, 2) := by decide +kernel
theorem dX6_ferry_19 : decode cX6_ferry 19 = .ok (.if_icmp .gt 9, 3) := by decide +kernel
theorem dX6_ferry_22 : decode cX6_ferry 22 = .ok (.iload_n 2, 1) := by decide +kernel
theorem dX6_ferry_23 : decode cX6_ferry 23 = .ok (.bipush 60, 2) := by decide +kernel
theorem dX6_ferry_25 : decode cX6_ferry 25 = .ok (.if_icmp .le 10, 3) := by decide +kernel
theorem dX6_ferry_28 : decode cX6_ferry 28 = .ok (.aload_n 0, 1) := by decide +kernel
theorem dX6_ferry_29 : decode cX6_ferry 29 = .ok (.bipush (-6), 2) := by decide +kernel
theorem dX6_ferry_31 : decode cX6_ferry 31 = .ok (.invokevirtual 47, 3) := by decide +kernel
theorem dX6_ferry_34 : decode cX6_ferry 34 = .ok (.ireturn, 1) := by decide +kernel
theorem dX6_ferry_35 : decode cX6_ferry 35 = .ok (.aload_n 0, 1) := by decide +kernel
theorem dX6_ferry_36 : decode cX6_ferry 36 = .ok (.getfield 29, 3) := by decide +kernel
theorem dX6_ferry_39 : decode cX6_ferry 39 = .ok (.aload_n 0, 1) := by decide +kernel
theorem dX6_ferry_40 : decode cX6_ferry 40 = .ok (.getfield 10, 3) := by decide +kernel
theorem dX6_ferry_43 : decode cX6_ferry 43 = .ok (.invokevirtual 168, 3) := by decide +kernel
theorem dX6_ferry_46 : decode cX6_ferry 46 = .ok (.aload_n 0, 1) := by decide +kernel
theorem dX6_ferry_47 : decode cX6_ferry 47 = .ok (.getfield 29, 3) := by decide +kernel
theorem dX6_ferry_50 : decode cX6_ferry 50 = .ok (.iload_n 1, 1) := by decide +kernel
theorem dX6_ferry_51 : decode cX6_ferry 51 = .ok (.iload_n 2, 1) := by decide +kernel
theorem dX6_ferry_52 : decode cX6_ferry 52 = .ok (.invokevirtual 179, 3) := by decide +kernel
theorem dX6_ferry_55 : decode cX6_ferry 55 = .ok (.ireturn, 1) := by decide +kernel
theorem dX6_times_0 : decode cX6_times 0 = .ok (.iload_n 1, 1) := by decide +kernel
theorem dX6_times_1 : decode cX6_times 1 = .ok (.iconst 1, 1) := by decide +kernel
theorem dX6_times_2 : decode cX6_times 2 = .ok (.if_icmp .ge 10, 3) := by decide +kernel
theorem dX6_times_5 : decode cX6_times 5 = .ok (.aload_n 0, 1) := by decide +kernel
theorem dX6_times_6 : decode cX6_times 6 = .ok (.bipush (-4), 2) := by decide +kernel
theorem dX6_times_8 : decode cX6_times 8 = .ok (.invokevirtual 47, 3) := by decide +kernel
theorem dX6_times_11 : decode cX6_times 11 = .ok (.ireturn, 1) := by decide +kernel
theorem dX6_times_12 : decode cX6_times 12 = .ok (.iload_n 1, 1) := by decide +kernel
theorem dX6_times_13 : decode cX6_times 13 = .ok (.bipush 60, 2) := by decide +kernel
theorem dX6_times_15 : decode cX6_times 15 = .ok (.if_icmp .le 10, 3) := by decide +kernel
theorem dX6_times_18 : decode cX6_times 18 = .ok (.aload_n 0, 1) := by decide +kernel
theorem dX6_times_19 : decode cX6_times 19 = .ok (.bipush (-6), 2) := by decide +kernel
theorem dX6_times_21 : decode cX6_times 21 = .ok (.invokevirtual 47, 3) := by decide +kernel
theorem dX6_times_24 : decode cX6_times 24 = .ok (.ireturn, 1) := by decide +kernel
theorem dX6_times_25 : decode cX6_times 25 = .ok (.aload_n 0, 1) := by decide +kernel
theorem dX6_times_26 : decode cX6_times 26 = .ok (.getfield 29, 3) := by decide +kernel
theorem dX6_times_29 : decode cX6_times 29 = .ok (.aload_n 0, 1) := by decide +kernel
theorem dX6_times_30 : decode cX6_times 30 = .ok (.getfield 10, 3) := by decide +kernel
theorem dX6_times_33 : decode cX6_times 33 = .ok (.invokevirtual 168, 3) := by decide +kernel
theorem dX6_times_36 : decode cX6_times 36 = .ok (.aload_n 0, 1) := by decide +kernel
theorem dX6_times_37 : decode cX6_times 37 = .ok (.getfield 29, 3) := by decide +kernel
theorem dX6_times_40 : decode cX6_times 40 = .ok (.iload_n 1, 1) := by decide +kernel
theorem dX6_times_41 : decode cX6_times 41 = .ok (.invokevirtual 182, 3) := by decide +kernel
theorem dX6_times_44 : decode cX6_times 44 = .ok (.ireturn, 1) := by decide +kernel
theorem dX6_better_0 : decode cX6_better 0 = .ok (.iload_n 1, 1) := by decide +kernel
theorem dX6_better_1 : decode cX6_better 1 = .ok (.iconst 1, 1) := by decide +kernel
theorem dX6_better_2 : decode cX6_better 2 = .ok (.if_icmp .ge 10, 3) := by decide +kernel
theorem dX6_better_5 : decode cX6_better 5 = .ok (.aload_n 0, 1) := by decide +kernel
theorem dX6_better_6 : decode cX6_better 6 = .ok (.bipush (-4), 2) := by decide +kernel
theorem dX6_better_8 : decode cX6_better 8 = .ok (.invokevirtual 47, 3) := by decide +kernel
theorem dX6_better_11 : decode cX6_better 11 = .ok (.ireturn, 1) := by decide +kernel
theorem dX6_better_12 : decode cX6_better 12 = .ok (.iload_n 1, 1) := by decide +kernel
theorem dX6_better_13 : decode cX6_better 13 = .ok (.bipush 60, 2) := by decide +kernel
theorem dX6_better_15 : decode cX6_better 15 = .ok (.if_icmp .le 10, 3) := by decide +kernel
theorem dX6_better_18 : decode cX6_better 18 = .ok (.aload_n 0, 1) := by decide +kernel
theorem dX6_better_19 : decode cX6_better 19 = .ok (.bipush (-6), 2) := by decide +kernel
theorem dX6_better_21 : decode cX6_better 21 = .ok (.invokevirtual 47, 3) := by decide +kernel
theorem dX6_better_24 : decode cX6_better 24 = .ok (.ireturn, 1) := by decide +kernel
theorem dX6_better_25 : decode cX6_better 25 = .ok (.aload_n 0, 1) := by decide +kernel
theorem dX6_better_26 : decode cX6_better 26 = .ok (.getfield 29, 3) := by decide +kernel
theorem dX6_better_29 : decode cX6_better 29 = .ok (.aload_n 0, 1) := by decide +kernel
theorem dX6_better_30 : decode cX6_better 30 = .ok (.getfield 10, 3) := by decide +kernel
theorem dX6_better_33 : decode cX6_better 33 = .ok (.invokevirtual 168, 3) := by decide +kernel
theorem dX6_better_36 : decode cX6_better 36 = .ok (.aload_n 0, 1) := by decide +kernel
theorem dX6_better_37 : decode cX6_better 37 = .ok (.getfield 29, 3) := by decide +kernel
theorem dX6_better_40 : decode cX6_better 40 = .ok (.iload_n 1, 1) := by decide +kernel
theorem dX6_better_41 : decode cX6_better 41 = .ok (.invokevirtual 185, 3) := by decide +kernel
theorem dX6_better_44 : decode cX6_better 44 = .ok (.ireturn, 1) := by decide +kernel
theorem dX6_follow_0 : decode cX6_follow 0 = .ok (.aload_n 0, 1) := by decide +kernel
theorem dX6_follow_1 : decode cX6_follow 1 = .ok (.getfield 22, 3) := by decide +kernel
theorem dX6_follow_4 : decode cX6_follow 4 = .ok (.aload_n 0, 1) := by decide +kernel
theorem dX6_follow_5 : decode cX6_follow 5 = .ok (.getfield 10, 3) := by decide +kernel
theorem dX6_follow_8 : decode cX6_follow 8 = .ok (.invokevirtual 58, 3) := by decide +kernel
theorem dX6_follow_11 : decode cX6_follow 11 = .ok (.aload_n 0, 1) := by decide +kernel
theorem dX6_follow_12 : decode cX6_follow 12 = .ok (.getfield 22, 3) := by decide +kernel
theorem dX6_follow_15 : decode cX6_follow 15 = .ok (.aload_n 0, 1) := by decide +kernel
theorem dX6_follow_16 : decode cX6_follow 16 = .ok (.getfield 10, 3) := by decide +kernel
theorem dX6_follow_19 : decode cX6_follow 19 = .ok (.invokevirtual 188, 3) := by decide +kernel
theorem dX6_follow_22 : decode cX6_follow 22 = .ok (.ireturn, 1) := by decide +kernel
theorem dX6_row_0 : decode cX6_row 0 = .ok (.iload_n 1, 1) := by decide +kernel
theorem dX6_row_1 : decode cX6_row 1 = .ok (.ifCond .ge 10, 3) := by decide +kernel
theorem dX6_row_4 : decode cX6_row 4 = .ok (.aload_n 0, 1) := by decide +kernel
theorem dX6_row_5 : decode cX6_row 5 = .ok (.bipush (-4), 2) := by decide +kernel
theorem dX6_row_7 : decode cX6_row 7 = .ok (.invokevirtual 47, 3) := by decide +kernel
theorem dX6_row_10 : decode cX6_row 10 = .ok (.ireturn, 1) := by decide +kernel
theorem dX6_row_11 : decode cX6_row 11 = .ok (.iload_n 1, 1) := by decide +kernel
theorem dX6_row_12 : decode cX6_row 12 = .ok (.bipush 99, 2) := by decide +kernel
theorem dX6_row_14 : decode cX6_row 14 = .ok (.if_icmp .gt 15, 3) := by decide +kernel
theorem dX6_row_17 : decode cX6_row 17 = .ok (.aload_n 0, 1) := by decide +kernel
theorem dX6_row_18 : decode cX6_row 18 = .ok (.getfield 191, 3) := by decide +kernel
theorem dX6_row_21 : decode cX6_row 21 = .ok (.aload_n 0, 1) := by decide +kernel
theorem dX6_row_22 : decode cX6_row 22 = .ok (.getfield 40, 3) := by decide +kernel
theorem dX6_row_25 : decode cX6_row 25 = .ok (.arraylength, 1) := by decide +kernel
theorem dX6_row_26 : decode cX6_row 26 = .ok (.if_icmp .lt 10, 3) := by decide +kernel
theorem dX6_row_29 : decode cX6_row 29 = .ok (.aload_n 0, 1) := by decide +kernel
theorem dX6_row_30 : decode cX6_row 30 = .ok (.bipush (-6), 2) := by decide +kernel
theorem dX6_row_32 : decode cX6_row 32 = .ok (.invokevirtual 47, 3) := by decide +kernel
theorem dX6_row_35 : decode cX6_row 35 = .ok (.ireturn, 1) := by decide +kernel
theorem dX6_row_36 : decode cX6_row 36 = .ok (.aload_n 0, 1) := by decide +kernel
theorem dX6_row_37 : decode cX6_row 37 = .ok (.getfield 40, 3) := by decide +kernel
theorem dX6_row_40 : decode cX6_row 40 = .ok (.aload_n 0, 1) := by decide +kernel
theorem dX6_row_41 : decode cX6_row 41 = .ok (.getfield 191, 3) := by decide +kernel
theorem dX6_row_44 : decode cX6_row 44 = .ok (.iload_n 1, 1) := by decide +kernel
theorem dX6_row_45 : decode cX6_row 45 = .ok (.iastore, 1) := by decide +kernel
theorem dX6_row_46 : decode cX6_row 46 = .ok (.aload_n 0, 1) := by decide +kernel
theorem dX6_row_47 : decode cX6_row 47 = .ok (.dup, 1) := by decide +kernel
theorem dX6_row_48 : decode cX6_row 48 = .ok (.getfield 191, 3) := by decide +kernel
theorem dX6_row_51 : decode cX6_row 51 = .ok (.iconst 1, 1) := by decide +kernel
theorem dX6_row_52 : decode cX6_row 52 = .ok (.iadd, 1) := by decide +kernel
theorem dX6_row_53 : decode cX6_row 53 = .ok (.putfield 191, 3) := by decide +kernel
theorem dX6_row_56 : decode cX6_row 56 = .ok (.aload_n 0, 1) := by decide +kernel
theorem dX6_row_57 : decode cX6_row 57 = .ok (.getfield 191, 3) := by decide +kernel
theorem dX6_row_60 : decode cX6_row 60 = .ok (.ireturn, 1) := by decide +kernel
theorem dX6_judge_0 : decode cX6_judge 0 = .ok (.aload_n 0, 1) := by decide +kernel
theorem dX6_judge_1 : decode cX6_judge 1 = .ok (.getfield 22, 3) := by decide +kernel
theorem dX6_judge_4 : decode cX6_judge 4 = .ok (.aload_n 0, 1) := by decide +kernel
theorem dX6_judge_5 : decode cX6_judge 5 = .ok (.getfield 10, 3) := by decide +kernel
theorem dX6_judge_8 : decode cX6_judge 8 = .ok (.invokevirtual 58, 3) := by decide +kernel
theorem dX6_judge_11 : decode cX6_judge 11 = .ok (.aload_n 0, 1) := by decide +kernel
theorem dX6_judge_12 : decode cX6_judge 12 = .ok (.getfield 22, 3) := by decide +kernel
theorem dX6_judge_15 : decode cX6_judge 15 = .ok (.aload_n 0, 1) := by decide +kernel
theorem dX6_judge_16 : decode cX6_judge 16 = .ok (.getfield 40, 3) := by decide +kernel
theorem dX6_judge_19 : decode cX6_judge 19 = .ok (.aload_n 0, 1) := by decide +kernel
theorem dX6_judge_20 : decode cX6_judge 20 = .ok (.getfield 191, 3) := by decide +kernel
theorem dX6_judge_23 : decode cX6_judge 23 = .ok (.invokevirtual 194, 3) := by decide +kernel
theorem dX6_judge_26 : decode cX6_judge 26 = .ok (.istore_n 1, 1) := by decide +kernel
theorem dX6_judge_27 : decode cX6_judge 27 = .ok (.aload_n 0, 1) := by decide +kernel
theorem dX6_judge_28 : decode cX6_judge 28 = .ok (.iconst 0, 1) := by decide +kernel
theorem dX6_judge_29 : decode cX6_judge 29 = .ok (.putfield 191, 3) := by decide +kernel
theorem dX6_judge_32 : decode cX6_judge 32 = .ok (.iload_n 1, 1) := by decide +kernel
theorem dX6_judge_33 : decode cX6_judge 33 = .ok (.ireturn, 1) := by decide +kernel
theorem dX6_fits_0 : decode cX6_fits 0 = .ok (.iload_n 1, 1) := by decide +kernel
theorem dX6_fits_1 : decode cX6_fits 1 = .ok (.ifCond .ge 10, 3) := by decide +kernel
theorem dX6_fits_4 : decode cX6_fits 4 = .ok (.aload_n 0, 1) := by decide +kernel
theorem dX6_fits_5 : decode cX6_fits 5 = .ok (.bipush (-4), 2) := by decide +kernel
theorem dX6_fits_7 : decode cX6_fits 7 = .ok (.invokevirtual 47, 3) := by decide +kernel
theorem dX6_fits_10 : decode cX6_fits 10 = .ok (.ireturn, 1) := by decide +kernel
theorem dX6_fits_11 : decode cX6_fits 11 = .ok (.iload_n 1, 1) := by decide +kernel
theorem dX6_fits_12 : decode cX6_fits 12 = .ok (.bipush 11, 2) := by decide +kernel
theorem dX6_fits_14 : decode cX6_fits 14 = .ok (.if_icmp .le 10, 3) := by decide +kernel
theorem dX6_fits_17 : decode cX6_fits 17 = .ok (.aload_n 0, 1) := by decide +kernel
theorem dX6_fits_18 : decode cX6_fits 18 = .ok (.bipush (-6), 2) := by decide +kernel
theorem dX6_fits_20 : decode cX6_fits 20 = .ok (.invokevirtual 47, 3) := by decide +kernel
theorem dX6_fits_23 : decode cX6_fits 23 = .ok (.ireturn, 1) := by decide +kernel
theorem dX6_fits_24 : decode cX6_fits 24 = .ok (.aload_n 0, 1) := by decide +kernel
theorem dX6_fits_25 : decode cX6_fits 25 = .ok (.getfield 10, 3) := by decide +kernel
theorem dX6_fits_28 : decode cX6_fits 28 = .ok (.iload_n 1, 1) := by decide +kernel
theorem dX6_fits_29 : decode cX6_fits 29 = .ok (.invokevirtual 198, 3) := by decide +kernel
theorem dX6_fits_32 : decode cX6_fits 32 = .ok (.ireturn, 1) := by decide +kernel
theorem dX6_seeds_0 : decode cX6_seeds 0 = .ok (.iload_n 1, 1) := by decide +kernel
theorem dX6_seeds_1 : decode cX6_seeds 1 = .ok (.iconst 1, 1) := by decide +kernel
theorem dX6_seeds_2 : decode cX6_seeds 2 = .ok (.if_icmp .ge 10, 3) := by decide +kernel
theorem dX6_seeds_5 : decode cX6_seeds 5 = .ok (.aload_n 0, 1) := by decide +kernel
theorem dX6_seeds_6 : decode cX6_seeds 6 = .ok (.bipush (-4), 2) := by decide +kernel
theorem dX6_seeds_8 : decode cX6_seeds 8 = .ok (.invokevirtual 47, 3) := by decide +kernel
theorem dX6_seeds_11 : decode cX6_seeds 11 = .ok (.ireturn, 1) := by decide +kernel
theorem dX6_seeds_12 : decode cX6_seeds 12 = .ok (.iload_n 1, 1) := by decide +kernel
theorem dX6_seeds_13 : decode cX6_seeds 13 = .ok (.bipush 20, 2) := by decide +kernel
theorem dX6_seeds_15 : decode cX6_seeds 15 = .ok (.if_icmp .le 10, 3) := by decide +kernel
theorem dX6_seeds_18 : decode cX6_seeds 18 = .ok (.aload_n 0, 1) := by decide +kernel
theorem dX6_seeds_19 : decode cX6_seeds 19 = .ok (.bipush (-6), 2) := by decide +kernel
theorem dX6_seeds_21 : decode cX6_seeds 21 = .ok (.invokevirtual 47, 3) := by decide +kernel
theorem dX6_seeds_24 : decode cX6_seeds 24 = .ok (.ireturn, 1) := by decide +kernel
theorem dX6_seeds_25 : decode cX6_seeds 25 = .ok (.iload_n 3, 1) := by decide +kernel
theorem dX6_seeds_26 : decode cX6_seeds 26 = .ok (.ifCond .eq 15, 3) := by decide +kernel
theorem dX6_seeds_29 : decode cX6_seeds 29 = .ok (.iload_n 3, 1) := by decide +kernel
theorem dX6_seeds_30 : decode cX6_seeds 30 = .ok (.iconst 1, 1) := by decide +kernel
theorem dX6_seeds_31 : decode cX6_seeds 31 = .ok (.if_icmp .eq 10, 3) := by decide +kernel
theorem dX6_seeds_34 : decode cX6_seeds 34 = .ok (.aload_n 0, 1) := by decide +kernel
theorem dX6_seeds_35 : decode cX6_seeds 35 = .ok (.bipush (-2), 2) := by decide +kernel
theorem dX6_seeds_37 : decode cX6_seeds 37 = .ok (.invokevirtual 47, 3) := by decide +kernel
theorem dX6_seeds_40 : decode cX6_seeds 40 = .ok (.ireturn, 1) := by decide +kernel
theorem dX6_seeds_41 : decode cX6_seeds 41 = .ok (.aload_n 0, 1) := by decide +kernel
theorem dX6_seeds_42 : decode cX6_seeds 42 = .ok (.getfield 22, 3) := by decide +kernel
theorem dX6_seeds_45 : decode cX6_seeds 45 = .ok (.aload_n 0, 1) := by decide +kernel
theorem dX6_seeds_46 : decode cX6_seeds 46 = .ok (.getfield 10, 3) := by decide +kernel
theorem dX6_seeds_49 : decode cX6_seeds 49 = .ok (.invokevirtual 58, 3) := by decide +kernel
theorem dX6_seeds_52 : decode cX6_seeds 52 = .ok (.aload_n 0, 1) := by decide +kernel
theorem dX6_seeds_53 : decode cX6_seeds 53 = .ok (.getfield 22, 3) := by decide +kernel
theorem dX6_seeds_56 : decode cX6_seeds 56 = .ok (.iload_n 1, 1) := by decide +kernel
theorem dX6_seeds_57 : decode cX6_seeds 57 = .ok (.iload_n 2, 1) := by decide +kernel
theorem dX6_seeds_58 : decode cX6_seeds 58 = .ok (.iload_n 3, 1) := by decide +kernel
theorem dX6_seeds_59 : decode cX6_seeds 59 = .ok (.ifCond .ne 7, 3) := by decide +kernel
theorem dX6_seeds_62 : decode cX6_seeds 62 = .ok (.iconst 1, 1) := by decide +kernel
theorem dX6_seeds_63 : decode cX6_seeds 63 = .ok (.goto 4, 3) := by decide +kernel
theorem dX6_seeds_66 : decode cX6_seeds 66 = .ok (.iconst 0, 1) := by decide +kernel
theorem dX6_seeds_67 : decode cX6_seeds 67 = .ok (.invokevirtual 201, 3) := by decide +kernel
theorem dX6_seeds_70 : decode cX6_seeds 70 = .ok (.ireturn, 1) := by decide +kernel
theorem dX6_image_0 : decode cX6_image 0 = .ok (.aload_n 0, 1) := by decide +kernel
theorem dX6_image_1 : decode cX6_image 1 = .ok (.getfield 16, 3) := by decide +kernel
theorem dX6_image_4 : decode cX6_image 4 = .ok (.aload_n 0, 1) := by decide +kernel
theorem dX6_image_5 : decode cX6_image 5 = .ok (.getfield 10, 3) := by decide +kernel
theorem dX6_image_8 : decode cX6_image 8 = .ok (.invokevirtual 69, 3) := by decide +kernel
theorem dX6_image_11 : decode cX6_image 11 = .ok (.aload_n 0, 1) := by decide +kernel
theorem dX6_image_12 : decode cX6_image 12 = .ok (.iconst 1, 1) := by decide +kernel
theorem dX6_image_13 : decode cX6_image 13 = .ok (.putfield 205, 3) := by decide +kernel
theorem dX6_image_16 : decode cX6_image 16 = .ok (.aload_n 0, 1) := by decide +kernel
theorem dX6_image_17 : decode cX6_image 17 = .ok (.getfield 10, 3) := by decide +kernel
theorem dX6_image_20 : decode cX6_image 20 = .ok (.getfield 107, 3) := by decide +kernel
theorem dX6_image_23 : decode cX6_image 23 = .ok (.ireturn, 1) := by decide +kernel
theorem dX6_restore_0 : decode cX6_restore 0 = .ok (.aload_n 0, 1) := by decide +kernel
theorem dX6_restore_1 : decode cX6_restore 1 = .ok (.getfield 205, 3) := by decide +kernel
theorem dX6_restore_4 : decode cX6_restore 4 = .ok (.ifCond .ne 10, 3) := by decide +kernel
theorem dX6_restore_7 : decode cX6_restore 7 = .ok (.aload_n 0, 1) := by decide +kernel
theorem dX6_restore_8 : decode cX6_restore 8 = .ok (.bipush (-3), 2) := by decide +kernel
theorem dX6_restore_10 : decode cX6_restore 10 = .ok (.invokevirtual 47, 3) := by decide +kernel
theorem dX6_restore_13 : decode cX6_restore 13 = .ok (.ireturn, 1) := by decide +kernel
theorem dX6_restore_14 : decode cX6_restore 14 = .ok (.aload_n 0, 1) := by decide +kernel
theorem dX6_restore_15 : decode cX6_restore 15 = .ok (.getfield 10, 3) := by decide +kernel
theorem dX6_restore_18 : decode cX6_restore 18 = .ok (.aload_n 0, 1) := by decide +kernel
theorem dX6_restore_19 : decode cX6_restore 19 = .ok (.getfield 16, 3) := by decide +kernel
theorem dX6_restore_22 : decode cX6_restore 22 = .ok (.invokevirtual 69, 3) := by decide +kernel
theorem dX6_restore_25 : decode cX6_restore 25 = .ok (.aload_n 0, 1) := by decide +kernel
theorem dX6_restore_26 : decode cX6_restore 26 = .ok (.getfield 10, 3) := by decide +kernel
theorem dX6_restore_29 : decode cX6_restore 29 = .ok (.getfield 107, 3) := by decide +kernel
theorem dX6_restore_32 : decode cX6_restore 32 = .ok (.ireturn, 1) := by decide +kernel
theorem dX6_count_0 : decode cX6_count 0 = .ok (.iload_n 1, 1) := by decide +kernel
theorem dX6_count_1 : decode cX6_count 1 = .ok (.bipush 11, 2) := by decide +kernel
theorem dX6_count_3 : decode cX6_count 3 = .ok (.if_icmp .lt 19, 3) := by decide +kernel
theorem dX6_count_6 : decode cX6_count 6 = .ok (.iload_n 1, 1) := by decide +kernel
theorem dX6_count_7 : decode cX6_count 7 = .ok (.bipush 16, 2) := by decide +kernel
theorem dX6_count_9 : decode cX6_count 9 = .ok (.if_icmp .gt 13, 3) := by decide +kernel
theorem dX6_count_12 : decode cX6_count 12 = .ok (.aload_n 0, 1) := by decide +kernel
theorem dX6_count_13 : decode cX6_count 13 = .ok (.getfield 44, 3) := by decide +kernel
theorem dX6_count_16 : decode cX6_count 16 = .ok (.iload_n 1, 1) := by decide +kernel
theorem dX6_count_17 : decode cX6_count 17 = .ok (.bipush 10, 2) := by decide +kernel
theorem dX6_count_19 : decode cX6_count 19 = .ok (.isub, 1) := by decide +kernel
theorem dX6_count_20 : decode cX6_count 20 = .ok (.iaload, 1) := by decide +kernel
theorem dX6_count_21 : decode cX6_count 21 = .ok (.ireturn, 1) := by decide +kernel
theorem dX6_count_22 : decode cX6_count 22 = .ok (.iload_n 1, 1) := by decide +kernel
theorem dX6_count_23 : decode cX6_count 23 = .ok (.bipush 20, 2) := by decide +kernel
theorem dX6_count_25 : decode cX6_count 25 = .ok (.if_icmp .lt 22, 3) := by decide +kernel
theorem dX6_count_28 : decode cX6_count 28 = .ok (.iload_n 1, 1) := by decide +kernel
theorem dX6_count_29 : decode cX6_count 29 = .ok (.bipush 27, 2) := by decide +kernel
theorem dX6_count_31 : decode cX6_count 31 = .ok (.if_icmp .gt 16, 3) := by decide +kernel
theorem dX6_count_34 : decode cX6_count 34 = .ok (.aload_n 0, 1) := by decide +kernel
theorem dX6_count_35 : decode cX6_count 35 = .ok (.getfield 10, 3) := by decide +kernel
theorem dX6_count_38 : decode cX6_count 38 = .ok (.getfield 209, 3) := by decide +kernel
theorem dX6_count_41 : decode cX6_count 41 = .ok (.iload_n 1, 1) := by decide +kernel
theorem dX6_count_42 : decode cX6_count 42 = .ok (.bipush 20, 2) := by decide +kernel
theorem dX6_count_44 : decode cX6_count 44 = .ok (.isub, 1) := by decide +kernel
theorem dX6_count_45 : decode cX6_count 45 = .ok (.iaload, 1) := by decide +kernel
theorem dX6_count_46 : decode cX6_count 46 = .ok (.ireturn, 1) := by decide +kernel
theorem dX6_count_47 : decode cX6_count 47 = .ok (.iload_n 1, 1) := by decide +kernel
theorem dX6_count_48 : decode cX6_count 48 = .ok (.tableswitch 131 0 8 #[52, 60, 68, 76, 85, 94, 110, 118, 126], 52) := by decide +kernel
theorem dX6_count_100 : decode cX6_count 100 = .ok (.aload_n 0, 1) := by decide +kernel
theorem dX6_count_101 : decode cX6_count 101 = .ok (.getfield 10, 3) := by decide +kernel
theorem dX6_count_104 : decode cX6_count 104 = .ok (.getfield 212, 3) := by decide +kernel
theorem dX6_count_107 : decode cX6_count 107 = .ok (.ireturn, 1) := by decide +kernel
theorem dX6_count_108 : decode cX6_count 108 = .ok (.aload_n 0, 1) := by decide +kernel
theorem dX6_count_109 : decode cX6_count 109 = .ok (.getfield 10, 3) := by decide +kernel
theorem dX6_count_112 : decode cX6_count 112 = .ok (.getfield 107, 3) := by decide +kernel
theorem dX6_count_115 : decode cX6_count 115 = .ok (.ireturn, 1) := by decide +kernel
theorem dX6_count_116 : decode cX6_count 116 = .ok (.aload_n 0, 1) := by decide +kernel
theorem dX6_count_117 : decode cX6_count 117 = .ok (.getfield 10, 3) := by decide +kernel
theorem dX6_count_120 : decode cX6_count 120 = .ok (.getfield 132, 3) := by decide +kernel
theorem dX6_count_123 : decode cX6_count 123 = .ok (.ireturn, 1) := by decide +kernel
theorem dX6_count_124 : decode cX6_count 124 = .ok (.aload_n 0, 1) := by decide +kernel
theorem dX6_count_125 : decode cX6_count 125 = .ok (.getfield 10, 3) := by decide +kernel
theorem dX6_count_128 : decode cX6_count 128 = .ok (.iconst 2, 1) := by decide +kernel
theorem dX6_count_129 : decode cX6_count 129 = .ok (.invokevirtual 215, 3) := by decide +kernel
theorem dX6_count_132 : decode cX6_count 132 = .ok (.ireturn, 1) := by decide +kernel
theorem dX6_count_133 : decode cX6_count 133 = .ok (.aload_n 0, 1) := by decide +kernel
theorem dX6_count_134 : decode cX6_count 134 = .ok (.getfield 10, 3) := by decide +kernel
theorem dX6_count_137 : decode cX6_count 137 = .ok (.iconst 3, 1) := by decide +kernel
theorem dX6_count_138 : decode cX6_count 138 = .ok (.invokevirtual 215, 3) := by decide +kernel
theorem dX6_count_141 : decode cX6_count 141 = .ok (.ireturn, 1) := by decide +kernel
theorem dX6_count_142 : decode cX6_count 142 = .ok (.aload_n 0, 1) := by decide +kernel
theorem dX6_count_143 : decode cX6_count 143 = .ok (.getfield 10, 3) := by decide +kernel
theorem dX6_count_146 : decode cX6_count 146 = .ok (.invokevirtual 121, 3) := by decide +kernel
theorem dX6_count_149 : decode cX6_count 149 = .ok (.ifCond .eq 7, 3) := by decide +kernel
theorem dX6_count_152 : decode cX6_count 152 = .ok (.iconst 1, 1) := by decide +kernel
theorem dX6_count_153 : decode cX6_count 153 = .ok (.goto 4, 3) := by decide +kernel
theorem dX6_count_156 : decode cX6_count 156 = .ok (.iconst 0, 1) := by decide +kernel
theorem dX6_count_157 : decode cX6_count 157 = .ok (.ireturn, 1) := by decide +kernel
theorem dX6_count_158 : decode cX6_count 158 = .ok (.aload_n 0, 1) := by decide +kernel
theorem dX6_count_159 : decode cX6_count 159 = .ok (.getfield 10, 3) := by decide +kernel
theorem dX6_count_162 : decode cX6_count 162 = .ok (.invokevirtual 218, 3) := by decide +kernel
theorem dX6_count_165 : decode cX6_count 165 = .ok (.ireturn, 1) := by decide +kernel
theorem dX6_count_166 : decode cX6_count 166 = .ok (.aload_n 0, 1) := by decide +kernel
theorem dX6_count_167 : decode cX6_count 167 = .ok (.getfield 36, 3) := by decide +kernel
theorem dX6_count_170 : decode cX6_count 170 = .ok (.getfield 51, 3) := by decide +kernel
theorem dX6_count_173 : decode cX6_count 173 = .ok (.ireturn, 1) := by decide +kernel
theorem dX6_count_174 : decode cX6_count 174 = .ok (.aload_n 0, 1) := by decide +kernel
theorem dX6_count_175 : decode cX6_count 175 = .ok (.getfield 191, 3) := by decide +kernel
theorem dX6_count_178 : decode cX6_count 178 = .ok (.ireturn, 1) := by decide +kernel
theorem dX6_count_179 : decode cX6_count 179 = .ok (.bipush (-9), 2) := by decide +kernel
theorem dX6_count_181 : decode cX6_count 181 = .ok (.ireturn, 1) := by decide +kernel
theorem dX6_refuse_0 : decode cX6_refuse 0 = .ok (.iload_n 1, 1) := by decide +kernel
theorem dX6_refuse_1 : decode cX6_refuse 1 = .ok (.ineg, 1) := by decide +kernel
theorem dX6_refuse_2 : decode cX6_refuse 2 = .ok (.istore_n 2, 1) := by decide +kernel
theorem dX6_refuse_3 : decode cX6_refuse 3 = .ok (.iload_n 2, 1) := by decide +kernel
theorem dX6_refuse_4 : decode cX6_refuse 4 = .ok (.ifCond .le 22, 3) := by decide +kernel
theorem dX6_refuse_7 : decode cX6_refuse 7 = .ok (.iload_n 2, 1) := by decide +kernel
theorem dX6_refuse_8 : decode cX6_refuse 8 = .ok (.aload_n 0, 1) := by decide +kernel
theorem dX6_refuse_9 : decode cX6_refuse 9 = .ok (.getfield 44, 3) := by decide +kernel
theorem dX6_refuse_12 : decode cX6_refuse 12 = .ok (.arraylength, 1) := by decide +kernel
theorem dX6_refuse_13 : decode cX6_refuse 13 = .ok (.if_icmp .ge 13, 3) := by decide +kernel
theorem dX6_refuse_16 : decode cX6_refuse 16 = .ok (.aload_n 0, 1) := by decide +kernel
theorem dX6_refuse_17 : decode cX6_refuse 17 = .ok (.getfield 44, 3) := by decide +kernel
theorem dX6_refuse_20 : decode cX6_refuse 20 = .ok (.iload_n 2, 1) := by decide +kernel
theorem dX6_refuse_21 : decode cX6_refuse 21 = .ok (.dup2, 1) := by decide +kernel
theorem dX6_refuse_22 : decode cX6_refuse 22 = .ok (.iaload, 1) := by decide +kernel
theorem dX6_refuse_23 : decode cX6_refuse 23 = .ok (.iconst 1, 1) := by decide +kernel
theorem dX6_refuse_24 : decode cX6_refuse 24 = .ok (.iadd, 1) := by decide +kernel
theorem dX6_refuse_25 : decode cX6_refuse 25 = .ok (.iastore, 1) := by decide +kernel
theorem dX6_refuse_26 : decode cX6_refuse 26 = .ok (.iload_n 1, 1) := by decide +kernel
theorem dX6_refuse_27 : decode cX6_refuse 27 = .ok (.ireturn, 1) := by decide +kernel
theorem dX6_heatingMinutes_0 : decode cX6_heatingMinutes 0 = .ok (.iload_n 0, 1) := by decide +kernel
theorem dX6_heatingMinutes_1 : decode cX6_heatingMinutes 1 = .ok (.iload_n 1, 1) := by decide +kernel
theorem dX6_heatingMinutes_2 : decode cX6_heatingMinutes 2 = .ok (.imul, 1) := by decide +kernel
theorem dX6_heatingMinutes_3 : decode cX6_heatingMinutes 3 = .ok (.iload_n 2, 1) := by decide +kernel
theorem dX6_heatingMinutes_4 : decode cX6_heatingMinutes 4 = .ok (.imul, 1) := by decide +kernel
theorem dX6_heatingMinutes_5 : decode cX6_heatingMinutes 5 = .ok (.istore_n 3, 1) := by decide +kernel
theorem dX6_heatingMinutes_6 : decode cX6_heatingMinutes 6 = .ok (.iload_n 3, 1) := by decide +kernel
theorem dX6_heatingMinutes_7 : decode cX6_heatingMinutes 7 = .ok (.ifCond .le 13, 3) := by decide +kernel
theorem dX6_heatingMinutes_10 : decode cX6_heatingMinutes 10 = .ok (.iload_n 3, 1) := by decide +kernel
theorem dX6_heatingMinutes_11 : decode cX6_heatingMinutes 11 = .ok (.bipush 99, 2) := by decide +kernel
theorem dX6_heatingMinutes_13 : decode cX6_heatingMinutes 13 = .ok (.iadd, 1) := by decide +kernel
theorem dX6_heatingMinutes_14 : decode cX6_heatingMinutes 14 = .ok (.bipush 100, 2) := by decide +kernel
theorem dX6_heatingMinutes_16 : decode cX6_heatingMinutes 16 = .ok (.idiv, 1) := by decide +kernel
theorem dX6_heatingMinutes_17 : decode cX6_heatingMinutes 17 = .ok (.goto 4, 3) := by decide +kernel
theorem dX6_heatingMinutes_20 : decode cX6_heatingMinutes 20 = .ok (.iconst 1, 1) := by decide +kernel
theorem dX6_heatingMinutes_21 : decode cX6_heatingMinutes 21 = .ok (.ireturn, 1) := by decide +kernel
theorem dX7_init_0 : decode cX7_init 0 = .ok (.aload_n 0, 1) := by decide +kernel
theorem dX7_init_1 : decode cX7_init 1 = .ok (.invokespecial 1, 3) := by decide +kernel
theorem dX7_init_4 : decode cX7_init 4 = .ok (.aload_n 0, 1) := by decide +kernel
theorem dX7_init_5 : decode cX7_init 5 = .ok (.bipush 7, 2) := by decide +kernel
theorem dX7_init_7 : decode cX7_init 7 = .ok (.newarray .int, 2) := by decide +kernel
theorem dX7_init_9 : decode cX7_init 9 = .ok (.putfield 7, 3) := by decide +kernel
theorem dX7_init_12 : decode cX7_init 12 = .ok (.aload_n 0, 1) := by decide +kernel
theorem dX7_init_13 : decode cX7_init 13 = .ok (.bipush 8, 2) := by decide +kernel
theorem dX7_init_15 : decode cX7_init 15 = .ok (.newarray .int, 2) := by decide +kernel
theorem dX7_init_17 : decode cX7_init 17 = .ok (.putfield 13, 3) := by decide +kernel
theorem dX7_init_20 : decode cX7_init 20 = .ok (.aload_n 0, 1) := by decide +kernel
theorem dX7_init_21 : decode cX7_init 21 = .ok (.bipush 8, 2) := by decide +kernel
theorem dX7_init_23 : decode cX7_init 23 = .ok (.newarray .int, 2) := by decide +kernel
theorem dX7_init_25 : decode cX7_init 25 = .ok (.putfield 16, 3) := by decide +kernel
theorem dX7_init_28 : decode cX7_init 28 = .ok (.aload_n 0, 1) := by decide +kernel
theorem dX7_init_29 : decode cX7_init 29 = .ok (.bipush 8, 2) := by decide +kernel
theorem dX7_init_31 : decode cX7_init 31 = .ok (.newarray .int, 2) := by decide +kernel
theorem dX7_init_33 : decode cX7_init 33 = .ok (.putfield 19, 3) := by decide +kernel
theorem dX7_init_36 : decode cX7_init 36 = .ok (.aload_n 0, 1) := by decide +kernel
theorem dX7_init_37 : decode cX7_init 37 = .ok (.bipush 8, 2) := by decide +kernel
theorem dX7_init_39 : decode cX7_init 39 = .ok (.newarray .int, 2) := by decide +kernel
theorem dX7_init_41 : decode cX7_init 41 = .ok (.putfield 22, 3) := by decide +kernel
theorem dX7_init_44 : decode cX7_init 44 = .ok (.aload_n 0, 1) := by decide +kernel
theorem dX7_init_45 : decode cX7_init 45 = .ok (.bipush 8, 2) := by decide +kernel
theorem dX7_init_47 : decode cX7_init 47 = .ok (.newarray .int, 2) := by decide +kernel
theorem dX7_init_49 : decode cX7_init 49 = .ok (.putfield 25, 3) := by decide +kernel
theorem dX7_init_52 : decode cX7_init 52 = .ok (.aload_n 0, 1) := by decide +kernel
theorem dX7_init_53 : decode cX7_init 53 = .ok (.bipush 8, 2) := by decide +kernel
theorem dX7_init_55 : decode cX7_init 55 = .ok (.newarray .int, 2) := by decide +kernel
theorem dX7_init_57 : decode cX7_init 57 = .ok (.putfield 28, 3) := by decide +kernel
theorem dX7_init_60 : decode cX7_init 60 = .ok (.aload_n 0, 1) := by decide +kernel
theorem dX7_init_61 : decode cX7_init 61 = .ok (.bipush 8, 2) := by decide +kernel
theorem dX7_init_63 : decode cX7_init 63 = .ok (.newarray .int, 2) := by decide +kernel
theorem dX7_init_65 : decode cX7_init 65 = .ok (.putfield 31, 3) := by decide +kernel
theorem dX7_init_68 : decode cX7_init 68 = .ok (.aload_n 0, 1) := by decide +kernel
theorem dX7_init_69 : decode cX7_init 69 = .ok (.bipush 8, 2) := by decide +kernel
theorem dX7_init_71 : decode cX7_init 71 = .ok (.newarray .int, 2) := by decide +kernel
theorem dX7_init_73 : decode cX7_init 73 = .ok (.putfield 34, 3) := by decide +kernel
theorem dX7_init_76 : decode cX7_init 76 = .ok (.aload_n 0, 1) := by decide +kernel
theorem dX7_init_77 : decode cX7_init 77 = .ok (.bipush 8, 2) := by decide +kernel
theorem dX7_init_79 : decode cX7_init 79 = .ok (.newarray .int, 2) := by decide +kernel
theorem dX7_init_81 : decode cX7_init 81 = .ok (.putfield 37, 3) := by decide +kernel
theorem dX7_init_84 : decode cX7_init 84 = .ok (.aload_n 0, 1) := by decide +kernel
theorem dX7_init_85 : decode cX7_init 85 = .ok (.iconst 2, 1) := by decide +kernel
theorem dX7_init_86 : decode cX7_init 86 = .ok (.newarray .int, 2) := by decide +kernel
theorem dX7_init_88 : decode cX7_init 88 = .ok (.putfield 40, 3) := by decide +kernel
theorem dX7_init_91 : decode cX7_init 91 = .ok (.aload_n 0, 1) := by decide +kernel
theorem dX7_init_92 : decode cX7_init 92 = .ok (.iconst 2, 1) := by decide +kernel
theorem dX7_init_93 : decode cX7_init 93 = .ok (.newarray .int, 2) := by decide +kernel
theorem dX7_init_95 : decode cX7_init 95 = .ok (.putfield 43, 3) := by decide +kernel
theorem dX7_init_98 : decode cX7_init 98 = .ok (.aload_n 0, 1) := by decide +kernel
theorem dX7_init_99 : decode cX7_init 99 = .ok (.iconst 2, 1) := by decide +kernel
theorem dX7_init_100 : decode cX7_init 100 = .ok (.newarray .int, 2) := by decide +kernel
theorem dX7_init_102 : decode cX7_init 102 = .ok (.putfield 46, 3) := by decide +kernel
theorem dX7_init_105 : decode cX7_init 105 = .ok (.aload_n 0, 1) := by decide +kernel
theorem dX7_init_106 : decode cX7_init 106 = .ok (.iconst 2, 1) := by decide +kernel
theorem dX7_init_107 : decode cX7_init 107 = .ok (.newarray .int, 2) := by decide +kernel
theorem dX7_init_109 : decode cX7_init 109 = .ok (.putfield 49, 3) := by decide +kernel
theorem dX7_init_112 : decode cX7_init 112 = .ok (.aload_n 0, 1) := by decide +kernel
theorem dX7_init_113 : decode cX7_init 113 = .ok (.iconst 2, 1) := by decide +kernel
theorem dX7_init_114 : decode cX7_init 114 = .ok (.newarray .int, 2) := by decide +kernel
theorem dX7_init_116 : decode cX7_init 116 = .ok (.putfield 52, 3) := by decide +kernel
theorem dX7_init_119 : decode cX7_init 119 = .ok (.aload_n 0, 1) := by decide +kernel
theorem dX7_init_120 : decode cX7_init 120 = .ok (.bipush 96, 2) := by decide +kernel
theorem dX7_init_122 : decode cX7_init 122 = .ok (.newarray .int, 2) := by decide +kernel
theorem dX7_init_124 : decode cX7_init 124 = .ok (.putfield 55, 3) := by decide +kernel
theorem dX7_init_127 : decode cX7_init 127 = .ok (.aload_n 0, 1) := by decide +kernel
theorem dX7_init_128 : decode cX7_init 128 = .ok (.bipush 48, 2) := by decide +kernel
theorem dX7_init_130 : decode cX7_init 130 = .ok (.newarray .int, 2) := by decide +kernel
theorem dX7_init_132 : decode cX7_init 132 = .ok (.putfield 58, 3) := by decide +kernel
theorem dX7_init_135 : decode cX7_init 135 = .ok (.aload_n 0, 1) := by decide +kernel
theorem dX7_init_136 : decode cX7_init 136 = .ok (.bipush 48, 2) := by decide +kernel
theorem dX7_init_138 : decode cX7_init 138 = .ok (.newarray .int, 2) := by decide +kernel
theorem dX7_init_140 : decode cX7_init 140 = .ok (.putfield 61, 3) := by decide +kernel
theorem dX7_init_143 : decode cX7_init 143 = .ok (.aload_n 0, 1) := by decide +kernel
theorem dX7_init_144 : decode cX7_init 144 = .ok (.sipush 240, 3) := by decide +kernel
theorem dX7_init_147 : decode cX7_init 147 = .ok (.newarray .int, 2) := by decide +kernel
theorem dX7_init_149 : decode cX7_init 149 = .ok (.putfield 64, 3) := by decide +kernel
theorem dX7_init_152 : decode cX7_init 152 = .ok (.aload_n 0, 1) := by decide +kernel
theorem dX7_init_153 : decode cX7_init 153 = .ok (.sipush 300, 3) := by decide +kernel
theorem dX7_init_156 : decode cX7_init 156 = .ok (.newarray .int, 2) := by decide +kernel
theorem dX7_init_158 : decode cX7_init 158 = .ok (.putfield 67, 3) := by decide +kernel
theorem dX7_init_161 : decode cX7_init 161 = .ok (.aload_n 0, 1) := by decide +kernel
theorem dX7_init_162 : decode cX7_init 162 = .ok (.bipush 8, 2) := by decide +kernel
theorem dX7_init_164 : decode cX7_init 164 = .ok (.newarray .int, 2) := by decide +kernel
theorem dX7_init_166 : decode cX7_init 166 = .ok (.putfield 70, 3) := by decide +kernel
theorem dX7_init_169 : decode cX7_init 169 = .ok (.aload_n 0, 1) := by decide +kernel
theorem dX7_init_170 : decode cX7_init 170 = .ok (.bipush 12, 2) := by decide +kernel
theorem dX7_init_172 : decode cX7_init 172 = .ok (.newarray .int, 2) := by decide +kernel
theorem dX7_init_174 : decode cX7_init 174 = .ok (.putfield 73, 3) := by decide +kernel
theorem dX7_init_177 : decode cX7_init 177 = .ok (.aload_n 0, 1) := by decide +kernel
theorem dX7_init_178 : decode cX7_init 178 = .ok (.getfield 13, 3) := by decide +kernel
theorem dX7_init_181 : decode cX7_init 181 = .ok (.iconst 0, 1) := by decide +kernel
theorem dX7_init_182 : decode cX7_init 182 = .ok (.bipush 8, 2) := by decide +kernel
theorem dX7_init_184 : decode cX7_init 184 = .ok (.iastore, 1) := by decide +kernel
theorem dX7_init_185 : decode cX7_init 185 = .ok (.aload_n 0, 1) := by decide +kernel
theorem dX7_init_186 : decode cX7_init 186 = .ok (.getfield 13, 3) := by decide +kernel
theorem dX7_init_189 : decode cX7_init 189 = .ok (.iconst 1, 1) := by decide +kernel
theorem dX7_init_190 : decode cX7_init 190 = .ok (.iconst 1, 1) := by decide +kernel
theorem dX7_init_191 : decode cX7_init 191 = .ok (.iastore, 1) := by decide +kernel
theorem dX7_init_192 : decode cX7_init 192 = .ok (.aload_n 0, 1) := by decide +kernel
theorem dX7_init_193 : decode cX7_init 193 = .ok (.getfield 13, 3) := by decide +kernel
theorem dX7_init_196 : decode cX7_init 196 = .ok (.iconst 2, 1) := by decide +kernel
theorem dX7_init_197 : decode cX7_init 197 = .ok (.iconst 4, 1) := by decide +kernel
theorem dX7_init_198 : decode cX7_init 198 = .ok (.iastore, 1) := by decide +kernel
theorem dX7_init_199 : decode cX7_init 199 = .ok (.aload_n 0, 1) := by decide +kernel
theorem dX7_init_200 : decode cX7_init 200 = .ok (.getfield 13, 3) := by decide +kernel
theorem dX7_init_203 : decode cX7_init 203 = .ok (.iconst 3, 1) := by decide +kernel
theorem dX7_init_204 : decode cX7_init 204 = .ok (.iconst 3, 1) := by decide +kernel
theorem dX7_init_205 : decode cX7_init 205 = .ok (.iastore, 1) := by decide +kernel
theorem dX7_init_206 : decode cX7_init 206 = .ok (.aload_n 0, 1) := by decide +kernel
theorem dX7_init_207 : decode cX7_init 207 = .ok (.getfield 13, 3) := by decide +kernel
theorem dX7_init_210 : decode cX7_init 210 = .ok (.iconst 4, 1) := by decide +kernel
theorem dX7_init_211 : decode cX7_init 211 = .ok (.iconst 1, 1) := by decide +kernel
theorem dX7_init_212 : decode cX7_init 212 = .ok (.iastore, 1) := by decide +kernel
theorem dX7_init_213 : decode cX7_init 213 = .ok (.aload_n 0, 1) := by decide +kernel
theorem dX7_init_214 : decode cX7_init 214 = .ok (.getfield 13, 3) := by decide +kernel
theorem dX7_init_217 : decode cX7_init 217 = .ok (.iconst 5, 1) := by decide +kernel
theorem dX7_init_218 : decode cX7_init 218 = .ok (.iconst 2, 1) := by decide +kernel
theorem dX7_init_219 : decode cX7_init 219 = .ok (.iastore, 1) := by decide +kernel
theorem dX7_init_220 : decode cX7_init 220 = .ok (.aload_n 0, 1) := by decide +kernel
theorem dX7_init_221 : decode cX7_init 221 = .ok (.getfield 13, 3) := by decide +kernel
theorem dX7_init_224 : decode cX7_init 224 = .ok (.bipush 6, 2) := by decide +kernel
theorem dX7_init_226 : decode cX7_init 226 = .ok (.iconst 3, 1) := by decide +kernel
theorem dX7_init_227 : decode cX7_init 227 = .ok (.iastore, 1) := by decide +kernel
theorem dX7_init_228 : decode cX7_init 228 = .ok (.aload_n 0, 1) := by decide +kernel
theorem dX7_init_229 : decode cX7_init 229 = .ok (.getfield 13, 3) := by decide +kernel
theorem dX7_init_232 : decode cX7_init 232 = .ok (.bipush 7, 2) := by decide +kernel
theorem dX7_init_234 : decode cX7_init 234 = .ok (.iconst 1, 1) := by decide +kernel
theorem dX7_init_235 : decode cX7_init 235 = .ok (.iastore, 1) := by decide +kernel
theorem dX7_init_236 : decode cX7_init 236 = .ok (.return_, 1) := by decide +kernel
theorem dX7_no_0 : decode cX7_no 0 = .ok (.aload_n 0, 1) := by decide +kernel
theorem dX7_no_1 : decode cX7_no 1 = .ok (.getfield 7, 3) := by decide +kernel
theorem dX7_no_4 : decode cX7_no 4 = .ok (.iload_n 1, 1) := by decide +kernel
theorem dX7_no_5 : decode cX7_no 5 = .ok (.ineg, 1) := by decide +kernel
theorem dX7_no_6 : decode cX7_no 6 = .ok (.dup2, 1) := by decide +kernel
theorem dX7_no_7 : decode cX7_no 7 = .ok (.iaload, 1) := by decide +kernel
theorem dX7_no_8 : decode cX7_no 8 = .ok (.iconst 1, 1) := by decide +kernel
theorem dX7_no_9 : decode cX7_no 9 = .ok (.iadd, 1) := by decide +kernel
theorem dX7_no_10 : decode cX7_no 10 = .ok (.iastore, 1) := by decide +kernel
theorem dX7_no_11 : decode cX7_no 11 = .ok (.iload_n 1, 1) := by decide +kernel
theorem dX7_no_12 : decode cX7_no 12 = .ok (.ireturn, 1) := by decide +kernel
theorem dX7_lower_0 : decode cX7_lower 0 = .ok (.aload_n 0, 1) := by decide +kernel
theorem dX7_lower_1 : decode cX7_lower 1 = .ok (.getfield 7, 3) := by decide +kernel
theorem dX7_lower_4 : decode cX7_lower 4 = .ok (.iload_n 1, 1) := by decide +kernel
theorem dX7_lower_5 : decode cX7_lower 5 = .ok (.ineg, 1) := by decide +kernel
theorem dX7_lower_6 : decode cX7_lower 6 = .ok (.dup2, 1) := by decide +kernel
theorem dX7_lower_7 : decode cX7_lower 7 = .ok (.iaload, 1) := by decide +kernel
theorem dX7_lower_8 : decode cX7_lower 8 = .ok (.iconst 1, 1) := by decide +kernel
theorem dX7_lower_9 : decode cX7_lower 9 = .ok (.iadd, 1) := by decide +kernel
theorem dX7_lower_10 : decode cX7_lower 10 = .ok (.iastore, 1) := by decide +kernel
theorem dX7_lower_11 : decode cX7_lower 11 = .ok (.ldc 76, 2) := by decide +kernel
theorem dX7_lower_13 : decode cX7_lower 13 = .ok (.iload_n 1, 1) := by decide +kernel
theorem dX7_lower_14 : decode cX7_lower 14 = .ok (.isub, 1) := by decide +kernel
theorem dX7_lower_15 : decode cX7_lower 15 = .ok (.ireturn, 1) := by decide +kernel
theorem dX7_isIn_0 : decode cX7_isIn 0 = .ok (.iload_n 0, 1) := by decide +kernel
theorem dX7_isIn_1 : decode cX7_isIn 1 = .ok (.iload_n 1, 1) := by decide +kernel
theorem dX7_isIn_2 : decode cX7_isIn 2 = .ok (.if_icmp .lt 12, 3) := by decide +kernel
theorem dX7_isIn_5 : decode cX7_isIn 5 = .ok (.iload_n 0, 1) := by decide +kernel
theorem dX7_isIn_6 : decode cX7_isIn 6 = .ok (.iload_n 2, 1) := by decide +kernel
theorem dX7_isIn_7 : decode cX7_isIn 7 = .ok (.if_icmp .gt 7, 3) := by decide +kernel
theorem dX7_isIn_10 : decode cX7_isIn 10 = .ok (.iconst 1, 1) := by decide +kernel
theorem dX7_isIn_11 : decode cX7_isIn 11 = .ok (.goto 4, 3) := by decide +kernel
theorem dX7_isIn_14 : decode cX7_isIn 14 = .ok (.iconst 0, 1) := by decide +kernel
theorem dX7_isIn_15 : decode cX7_isIn 15 = .ok (.ireturn, 1) := by decide +kernel
theorem dX7_bound_0 : decode cX7_bound 0 = .ok (.iload_n 0, 1) := by decide +kernel
theorem dX7_bound_1 : decode cX7_bound 1 = .ok (.iload_n 1, 1) := by decide +kernel
theorem dX7_bound_2 : decode cX7_bound 2 = .ok (.if_icmp .ge 8, 3) := by decide +kernel
theorem dX7_bound_5 : decode cX7_bound 5 = .ok (.bipush (-4), 2) := by decide +kernel
theorem dX7_bound_7 : decode cX7_bound 7 = .ok (.goto 14, 3) := by decide +kernel
theorem dX7_bound_10 : decode cX7_bound 10 = .ok (.iload_n 0, 1) := by decide +kernel
theorem dX7_bound_11 : decode cX7_bound 11 = .ok (.iload_n 2, 1) := by decide +kernel
theorem dX7_bound_12 : decode cX7_bound 12 = .ok (.if_icmp .le 8, 3) := by decide +kernel
theorem dX7_bound_15 : decode cX7_bound 15 = .ok (.bipush (-6), 2) := by decide +kernel
theorem dX7_bound_17 : decode cX7_bound 17 = .ok (.goto 4, 3) := by decide +kernel
theorem dX7_bound_20 : decode cX7_bound 20 = .ok (.iconst 0, 1) := by decide +kernel
theorem dX7_bound_21 : decode cX7_bound 21 = .ok (.ireturn, 1) := by decide +kernel
theorem dX7_leastOf_0 : decode cX7_leastOf 0 = .ok (.iload_n 0, 1) := by decide +kernel
theorem dX7_leastOf_1 : decode cX7_leastOf 1 = .ok (.ifCond .ne 7, 3) := by decide +kernel
theorem dX7_leastOf_4 : decode cX7_leastOf 4 = .ok (.iconst 2, 1) := by decide +kernel
theorem dX7_leastOf_5 : decode cX7_leastOf 5 = .ok (.goto 24, 3) := by decide +kernel
theorem dX7_leastOf_8 : decode cX7_leastOf 8 = .ok (.iload_n 0, 1) := by decide +kernel
theorem dX7_leastOf_9 : decode cX7_leastOf 9 = .ok (.iconst 2, 1) := by decide +kernel
theorem dX7_leastOf_10 : decode cX7_leastOf 10 = .ok (.if_icmp .eq 14, 3) := by decide +kernel
theorem dX7_leastOf_13 : decode cX7_leastOf 13 = .ok (.iload_n 0, 1) := by decide +kernel
theorem dX7_leastOf_14 : decode cX7_leastOf 14 = .ok (.iconst 3, 1) := by decide +kernel
theorem dX7_leastOf_15 : decode cX7_leastOf 15 = .ok (.if_icmp .eq 9, 3) := by decide +kernel
theorem dX7_leastOf_18 : decode cX7_leastOf 18 = .ok (.iload_n 0, 1) := by decide +kernel
theorem dX7_leastOf_19 : decode cX7_leastOf 19 = .ok (.bipush 7, 2) := by decide +kernel
theorem dX7_leastOf_21 : decode cX7_leastOf 21 = .ok (.if_icmp .ne 7, 3) := by decide +kernel
theorem dX7_leastOf_24 : decode cX7_leastOf 24 = .ok (.iconst 1, 1) := by decide +kernel
theorem dX7_leastOf_25 : decode cX7_leastOf 25 = .ok (.goto 4, 3) := by decide +kernel
theorem dX7_leastOf_28 : decode cX7_leastOf 28 = .ok (.iconst 0, 1) := by decide +kernel
theorem dX7_leastOf_29 : decode cX7_leastOf 29 = .ok (.ireturn, 1) := by decide +kernel
theorem dX7_mostOf_0 : decode cX7_mostOf 0 = .ok (.iload_n 0, 1) := by decide +kernel
theorem dX7_mostOf_1 : decode cX7_mostOf 1 = .ok (.ifCond .eq 9, 3) := by decide +kernel
theorem dX7_mostOf_4 : decode cX7_mostOf 4 = .ok (.iload_n 0, 1) := by decide +kernel
theorem dX7_mostOf_5 : decode cX7_mostOf 5 = .ok (.bipush 6, 2) := by decide +kernel
theorem dX7_mostOf_7 : decode cX7_mostOf 7 = .ok (.if_icmp .ne 8, 3) := by decide +kernel
theorem dX7_mostOf_10 : decode cX7_mostOf 10 = .ok (.bipush 11, 2) := by decide +kernel
theorem dX7_mostOf_12 : decode cX7_mostOf 12 = .ok (.goto 25, 3) := by decide +kernel
theorem dX7_mostOf_15 : decode cX7_mostOf 15 = .ok (.iload_n 0, 1) := by decide +kernel
theorem dX7_mostOf_16 : decode cX7_mostOf 16 = .ok (.iconst 2, 1) := by decide +kernel
theorem dX7_mostOf_17 : decode cX7_mostOf 17 = .ok (.if_icmp .ne 8, 3) := by decide +kernel
theorem dX7_mostOf_20 : decode cX7_mostOf 20 = .ok (.bipush 20, 2) := by decide +kernel
theorem dX7_mostOf_22 : decode cX7_mostOf 22 = .ok (.goto 15, 3) := by decide +kernel
theorem dX7_mostOf_25 : decode cX7_mostOf 25 = .ok (.iload_n 0, 1) := by decide +kernel
theorem dX7_mostOf_26 : decode cX7_mostOf 26 = .ok (.bipush 7, 2) := by decide +kernel
theorem dX7_mostOf_28 : decode cX7_mostOf 28 = .ok (.if_icmp .ne 7, 3) := by decide +kernel
theorem dX7_mostOf_31 : decode cX7_mostOf 31 = .ok (.iconst 2, 1) := by decide +kernel
theorem dX7_mostOf_32 : decode cX7_mostOf 32 = .ok (.goto 5, 3) := by decide +kernel
theorem dX7_mostOf_35 : decode cX7_mostOf 35 = .ok (.bipush 9, 2) := by decide +kernel
theorem dX7_mostOf_37 : decode cX7_mostOf 37 = .ok (.ireturn, 1) := by decide +kernel
theorem dX7_isComer_0 : decode cX7_isComer 0 = .ok (.iload_n 1, 1) := by decide +kernel
theorem dX7_isComer_1 : decode cX7_isComer 1 = .ok (.ifCond .lt 15, 3) := by decide +kernel
theorem dX7_isComer_4 : decode cX7_isComer 4 = .ok (.iload_n 1, 1) := by decide +kernel
theorem dX7_isComer_5 : decode cX7_isComer 5 = .ok (.aload_n 0, 1) := by decide +kernel
theorem dX7_isComer_6 : decode cX7_isComer 6 = .ok (.getfield 77, 3) := by decide +kernel
theorem dX7_isComer_9 : decode cX7_isComer 9 = .ok (.if_icmp .ge 7, 3) := by decide +kernel
theorem dX7_isComer_12 : decode cX7_isComer 12 = .ok (.iconst 1, 1) := by decide +kernel
theorem dX7_isComer_13 : decode cX7_isComer 13 = .ok (.goto 4, 3) := by decide +kernel
theorem dX7_isComer_16 : decode cX7_isComer 16 = .ok (.iconst 0, 1) := by decide +kernel
theorem dX7_isComer_17 : decode cX7_isComer 17 = .ok (.ireturn, 1) := by decide +kernel
theorem dX7_feed_0 : decode cX7_feed 0 = .ok (.iload_n 1, 1) := by decide +kernel
theorem dX7_feed_1 : decode cX7_feed 1 = .ok (.iconst 0, 1) := by decide +kernel
theorem dX7_feed_2 : decode cX7_feed 2 = .ok (.sipush 255, 3) := by decide +kernel
theorem dX7_feed_5 : decode cX7_feed 5 = .ok (.invokestatic 81, 3) := by decide +kernel
theorem dX7_feed_8 : decode cX7_feed 8 = .ok (.istore_n 2, 1) := by decide +kernel
theorem dX7_feed_9 : decode cX7_feed 9 = .ok (.iload_n 2, 1) := by decide +kernel
theorem dX7_feed_10 : decode cX7_feed 10 = .ok (.ifCond .ne 15, 3) := by decide +kernel
theorem dX7_feed_13 : decode cX7_feed 13 = .ok (.aload_n 0, 1) := by decide +kernel
theorem dX7_feed_14 : decode cX7_feed 14 = .ok (.getfield 85, 3) := by decide +kernel
theorem dX7_feed_17 : decode cX7_feed 17 = .ok (.bipush 96, 2) := by decide +kernel
theorem dX7_feed_19 : decode cX7_feed 19 = .ok (.if_icmp .ne 6, 3) := by decide +kernel
theorem dX7_feed_22 : decode cX7_feed 22 = .ok (.bipush (-6), 2) := by decide +kernel
theorem dX7_feed_24 : decode cX7_feed 24 = .ok (.istore_n 2, 1) := by decide +kernel
theorem dX7_feed_25 : decode cX7_feed 25 = .ok (.iload_n 2, 1) := by decide +kernel
theorem dX7_feed_26 : decode cX7_feed 26 = .ok (.ifCond .eq 9, 3) := by decide +kernel
theorem dX7_feed_29 : decode cX7_feed 29 = .ok (.aload_n 0, 1) := by decide +kernel
theorem dX7_feed_30 : decode cX7_feed 30 = .ok (.iload_n 2, 1) := by decide +kernel
theorem dX7_feed_31 : decode cX7_feed 31 = .ok (.invokevirtual 88, 3) := by decide +kernel
theorem dX7_feed_34 : decode cX7_feed 34 = .ok (.ireturn, 1) := by decide +kernel
theorem dX7_feed_35 : decode cX7_feed 35 = .ok (.aload_n 0, 1) := by decide +kernel
theorem dX7_feed_36 : decode cX7_feed 36 = .ok (.getfield 55, 3) := by decide +kernel
theorem dX7_feed_39 : decode cX7_feed 39 = .ok (.aload_n 0, 1) := by decide +kernel
theorem dX7_feed_40 : decode cX7_feed 40 = .ok (.getfield 85, 3) := by decide +kernel
theorem dX7_feed_43 : decode cX7_feed 43 = .ok (.iload_n 1, 1) := by decide +kernel
theorem dX7_feed_44 : decode cX7_feed 44 = .ok (.iastore, 1) := by decide +kernel
theorem dX7_feed_45 : decode cX7_feed 45 = .ok (.aload_n 0, 1) := by decide +kernel
theorem dX7_feed_46 : decode cX7_feed 46 = .ok (.dup, 1) := by decide +kernel
theorem dX7_feed_47 : decode cX7_feed 47 = .ok (.getfield 85, 3) := by decide +kernel
theorem dX7_feed_50 : decode cX7_feed 50 = .ok (.iconst 1, 1) := by decide +kernel
theorem dX7_feed_51 : decode cX7_feed 51 = .ok (.iadd, 1) := by decide +kernel
theorem dX7_feed_52 : decode cX7_feed 52 = .ok (.putfield 85, 3) := by decide +kernel
theorem dX7_feed_55 : decode cX7_feed 55 = .ok (.aload_n 0, 1) := by decide +kernel
theorem dX7_feed_56 : decode cX7_feed 56 = .ok (.getfield 85, 3) := by decide +kernel
theorem dX7_feed_59 : decode cX7_feed 59 = .ok (.ireturn, 1) := by decide +kernel
theorem dX7_next_0 : decode cX7_next 0 = .ok (.aload_n 0, 1) := by decide +kernel
theorem dX7_next_1 : decode cX7_next 1 = .ok (.getfield 92, 3) := by decide +kernel
theorem dX7_next_4 : decode cX7_next 4 = .ok (.aload_n 0, 1) := by decide +kernel
theorem dX7_next_5 : decode cX7_next 5 = .ok (.getfield 85, 3) := by decide +kernel
theorem dX7_next_8 : decode cX7_next 8 = .ok (.if_icmp .ge 15, 3) := by decide +kernel
theorem dX7_next_11 : decode cX7_next 11 = .ok (.aload_n 0, 1) := by decide +kernel
theorem dX7_next_12 : decode cX7_next 12 = .ok (.getfield 55, 3) := by decide +kernel
theorem dX7_next_15 : decode cX7_next 15 = .ok (.aload_n 0, 1) := by decide +kernel
theorem dX7_next_16 : decode cX7_next 16 = .ok (.getfield 92, 3) := by decide +kernel
theorem dX7_next_19 : decode cX7_next 19 = .ok (.iaload, 1) := by decide +kernel
theorem dX7_next_20 : decode cX7_next 20 = .ok (.goto 4, 3) := by decide +kernel
theorem dX7_next_23 : decode cX7_next 23 = .ok (.iconst (-1), 1) := by decide +kernel
theorem dX7_next_24 : decode cX7_next 24 = .ok (.ireturn, 1) := by decide +kernel
theorem dX7_readsNumber_0 : decode cX7_readsNumber 0 = .ok (.iconst 0, 1) := by decide +kernel
theorem dX7_readsNumber_1 : decode cX7_readsNumber 1 = .ok (.istore 4, 2) := by decide +kernel
theorem dX7_readsNumber_3 : decode cX7_readsNumber 3 = .ok (.iconst 0, 1) := by decide +kernel
theorem dX7_readsNumber_4 : decode cX7_readsNumber 4 = .ok (.istore 5, 2) := by decide +kernel
theorem dX7_readsNumber_6 : decode cX7_readsNumber 6 = .ok (.iload 5, 2) := by decide +kernel
theorem dX7_readsNumber_8 : decode cX7_readsNumber 8 = .ok (.iload_n 3, 1) := by decide +kernel
theorem dX7_readsNumber_9 : decode cX7_readsNumber 9 = .ok (.if_icmp .ge 48, 3) := by decide +kernel
theorem dX7_readsNumber_12 : decode cX7_readsNumber 12 = .ok (.aload_n 0, 1) := by decide +kernel
theorem dX7_readsNumber_13 : decode cX7_readsNumber 13 = .ok (.invokevirtual 95, 3) := by decide +kernel
theorem dX7_readsNumber_16 : decode cX7_readsNumber 16 = .ok (.bipush 48, 2) := by decide +kernel
theorem dX7_readsNumber_18 : decode cX7_readsNumber 18 = .ok (.bipush 57, 2) := by decide +kernel
theorem dX7_readsNumber_20 : decode cX7_readsNumber 20 = .ok (.invokestatic 99, 3) := by decide +kernel
theorem dX7_readsNumber_23 : decode cX7_readsNumber 23 = .ok (.ifCond .eq 34, 3) := by decide +kernel
theorem dX7_readsNumber_26 : decode cX7_readsNumber 26 = .ok (.bipush 10, 2) := by decide +kernel
theorem dX7_readsNumber_28 : decode cX7_readsNumber 28 = .ok (.iload 4, 2) := by decide +kernel
theorem dX7_readsNumber_30 : decode cX7_readsNumber 30 = .ok (.imul, 1) := by decide +kernel
theorem dX7_readsNumber_31 : decode cX7_readsNumber 31 = .ok (.aload_n 0, 1) := by decide +kernel
theorem dX7_readsNumber_32 : decode cX7_readsNumber 32 = .ok (.invokevirtual 95, 3) := by decide +kernel
theorem dX7_readsNumber_35 : decode cX7_readsNumber 35 = .ok (.iadd, 1) := by decide +kernel
theorem dX7_readsNumber_36 : decode cX7_readsNumber 36 = .ok (.bipush 48, 2) := by decide +kernel
theorem dX7_readsNumber_38 : decode cX7_readsNumber 38 = .ok (.isub, 1) := by decide +kernel
theorem dX7_readsNumber_39 : decode cX7_readsNumber 39 = .ok (.istore 4, 2) := by decide +kernel
theorem dX7_readsNumber_41 : decode cX7_readsNumber 41 = .ok (.aload_n 0, 1) := by decide +kernel
theorem dX7_readsNumber_42 : decode cX7_readsNumber 42 = .ok (.dup, 1) := by decide +kernel
theorem dX7_readsNumber_43 : decode cX7_readsNumber 43 = .ok (.getfield 92, 3) := by decide +kernel
theorem dX7_readsNumber_46 : decode cX7_readsNumber 46 = .ok (.iconst 1, 1) := by decide +kernel
theorem dX7_readsNumber_47 : decode cX7_readsNumber 47 = .ok (.iadd, 1) := by decide +kernel
theorem dX7_readsNumber_48 : decode cX7_readsNumber 48 = .ok (.putfield 92, 3) := by decide +kernel
theorem dX7_readsNumber_51 : decode cX7_readsNumber 51 = .ok (.iinc 5 1, 3) := by decide +kernel
theorem dX7_readsNumber_54 : decode cX7_readsNumber 54 = .ok (.goto (-48), 3) := by decide +kernel
theorem dX7_readsNumber_57 : decode cX7_readsNumber 57 = .ok (.aload_n 0, 1) := by decide +kernel
theorem dX7_readsNumber_58 : decode cX7_readsNumber 58 = .ok (.getfield 64, 3) := by decide +kernel
theorem dX7_readsNumber_61 : decode cX7_readsNumber 61 = .ok (.iload_n 1, 1) := by decide +kernel
theorem dX7_readsNumber_62 : decode cX7_readsNumber 62 = .ok (.iload 4, 2) := by decide +kernel
theorem dX7_readsNumber_64 : decode cX7_readsNumber 64 = .ok (.iastore, 1) := by decide +kernel
theorem dX7_readsNumber_65 : decode cX7_readsNumber 65 = .ok (.iload 5, 2) := by decide +kernel
theorem dX7_readsNumber_67 : decode cX7_readsNumber 67 = .ok (.iload_n 2, 1) := by decide +kernel
theorem dX7_readsNumber_68 : decode cX7_readsNumber 68 = .ok (.if_icmp .lt 7, 3) := by decide +kernel
theorem dX7_readsNumber_71 : decode cX7_readsNumber 71 = .ok (.iconst 1, 1) := by decide +kernel
theorem dX7_readsNumber_72 : decode cX7_readsNumber 72 = .ok (.goto 4, 3) := by decide +kernel
theorem dX7_readsNumber_75 : decode cX7_readsNumber 75 = .ok (.iconst 0, 1) := by decide +kernel
theorem dX7_readsNumber_76 : decode cX7_readsNumber 76 = .ok (.ireturn, 1) := by decide +kernel
theorem dX7_readsSetting_0 : decode cX7_readsSetting 0 = .ok (.aload_n 0, 1) := by decide +kernel
theorem dX7_readsSetting_1 : decode cX7_readsSetting 1 = .ok (.iload_n 1, 1) := by decide +kernel
theorem dX7_readsSetting_2 : decode cX7_readsSetting 2 = .ok (.iconst 1, 1) := by decide +kernel
theorem dX7_readsSetting_3 : decode cX7_readsSetting 3 = .ok (.iconst 1, 1) := by decide +kernel
theorem dX7_readsSetting_4 : decode cX7_readsSetting 4 = .ok (.invokevirtual 103, 3) := by decide +kernel
theorem dX7_readsSetting_7 : decode cX7_readsSetting 7 = .ok (.ifCond .eq 12, 3) := by decide +kernel
theorem dX7_readsSetting_10 : decode cX7_readsSetting 10 = .ok (.aload_n 0, 1) := by decide +kernel
theorem dX7_readsSetting_11 : decode cX7_readsSetting 11 = .ok (.invokevirtual 95, 3) := by decide +kernel
theorem dX7_readsSetting_14 : decode cX7_readsSetting 14 = .ok (.bipush 61, 2) := by decide +kernel
theorem dX7_readsSetting_16 : decode cX7_readsSetting 16 = .ok (.if_icmp .eq 5, 3) := by decide +kernel
theorem dX7_readsSetting_19 : decode cX7_readsSetting 19 = .ok (.iconst 0, 1) := by decide +kernel
theorem dX7_readsSetting_20 : decode cX7_readsSetting 20 = .ok (.ireturn, 1) := by decide +kernel
theorem dX7_readsSetting_21 : decode cX7_readsSetting 21 = .ok (.aload_n 0, 1) := by decide +kernel
theorem dX7_readsSetting_22 : decode cX7_readsSetting 22 = .ok (.dup, 1) := by decide +kernel
theorem dX7_readsSetting_23 : decode cX7_readsSetting 23 = .ok (.getfield 92, 3) := by decide +kernel
theorem dX7_readsSetting_26 : decode cX7_readsSetting 26 = .ok (.iconst 1, 1) := by decide +kernel
theorem dX7_readsSetting_27 : decode cX7_readsSetting 27 = .ok (.iadd, 1) := by decide +kernel
theorem dX7_readsSetting_28 : decode cX7_readsSetting 28 = .ok (.putfield 92, 3) := by decide +kernel
theorem dX7_readsSetting_31 : decode cX7_readsSetting 31 = .ok (.aload_n 0, 1) := by decide +kernel
theorem dX7_readsSetting_32 : decode cX7_readsSetting 32 = .ok (.iload_n 1, 1) := by decide +kernel
theorem dX7_readsSetting_33 : decode cX7_readsSetting 33 = .ok (.iconst 1, 1) := by decide +kernel
theorem dX7_readsSetting_34 : decode cX7_readsSetting 34 = .ok (.iadd, 1) := by decide +kernel
theorem dX7_readsSetting_35 : decode cX7_readsSetting 35 = .ok (.iconst 1, 1) := by decide +kernel
theorem dX7_readsSetting_36 : decode cX7_readsSetting 36 = .ok (.iconst 2, 1) := by decide +kernel
theorem dX7_readsSetting_37 : decode cX7_readsSetting 37 = .ok (.invokevirtual 103, 3) := by decide +kernel
theorem dX7_readsSetting_40 : decode cX7_readsSetting 40 = .ok (.ireturn, 1) := by decide +kernel
theorem dX7_readsComer_0 : decode cX7_readsComer 0 = .ok (.aload_n 0, 1) := by decide +kernel
theorem dX7_readsComer_1 : decode cX7_readsComer 1 = .ok (.iload_n 1, 1) := by decide +kernel
theorem dX7_readsComer_2 : decode cX7_readsComer 2 = .ok (.iconst 1, 1) := by decide +kernel
theorem dX7_readsComer_3 : decode cX7_readsComer 3 = .ok (.iconst 1, 1) := by decide +kernel
theorem dX7_readsComer_4 : decode cX7_readsComer 4 = .ok (.invokevirtual 103, 3) := by decide +kernel
theorem dX7_readsComer_7 : decode cX7_readsComer 7 = .ok (.ifCond .eq 55, 3) := by decide +kernel
theorem dX7_readsComer_10 : decode cX7_readsComer 10 = .ok (.aload_n 0, 1) := by decide +kernel
theorem dX7_readsComer_11 : decode cX7_readsComer 11 = .ok (.iload_n 1, 1) := by decide +kernel
theorem dX7_readsComer_12 : decode cX7_readsComer 12 = .ok (.iconst 1, 1) := by decide +kernel
theorem dX7_readsComer_13 : decode cX7_readsComer 13 = .ok (.iadd, 1) := by decide +kernel
theorem dX7_readsComer_14 : decode cX7_readsComer 14 = .ok (.iconst 1, 1) := by decide +kernel
theorem dX7_readsComer_15 : decode cX7_readsComer 15 = .ok (.iconst 1, 1) := by decide +kernel
theorem dX7_readsComer_16 : decode cX7_readsComer 16 = .ok (.invokevirtual 103, 3) := by decide +kernel
theorem dX7_readsComer_19 : decode cX7_readsComer 19 = .ok (.ifCond .eq 43, 3) := by decide +kernel
theorem dX7_readsComer_22 : decode cX7_readsComer 22 = .ok (.aload_n 0, 1) := by decide +kernel
theorem dX7_readsComer_23 : decode cX7_readsComer 23 = .ok (.iload_n 1, 1) := by decide +kernel
theorem dX7_readsComer_24 : decode cX7_readsComer 24 = .ok (.iconst 2, 1) := by decide +kernel
theorem dX7_readsComer_25 : decode cX7_readsComer 25 = .ok (.iadd, 1) := by decide +kernel
theorem dX7_readsComer_26 : decode cX7_readsComer 26 = .ok (.iconst 3, 1) := by decide +kernel
theorem dX7_readsComer_27 : decode cX7_readsComer 27 = .ok (.iconst 3, 1) := by decide +kernel
theorem dX7_readsComer_28 : decode cX7_readsComer 28 = .ok (.invokevirtual 103, 3) := by decide +kernel
theorem dX7_readsComer_31 : decode cX7_readsComer 31 = .ok (.ifCond .eq 31, 3) := by decide +kernel
theorem dX7_readsComer_34 : decode cX7_readsComer 34 = .ok (.aload_n 0, 1) := by decide +kernel
theorem dX7_readsComer_35 : decode cX7_readsComer 35 = .ok (.iload_n 1, 1) := by decide +kernel
theorem dX7_readsComer_36 : decode cX7_readsComer 36 = .ok (.iconst 3, 1) := by decide +kernel
theorem dX7_readsComer_37 : decode cX7_readsComer 37 = .ok (.iadd, 1) := by decide +kernel
theorem dX7_readsComer_38 : decode cX7_readsComer 38 = .ok (.iconst 1, 1) := by decide +kernel
theorem dX7_readsComer_39 : decode cX7_readsComer 39 = .ok (.iconst 1, 1) := by decide +kernel
theorem dX7_readsComer_40 : decode cX7_readsComer 40 = .ok (.invokevirtual 103, 3) := by decide +kernel
theorem dX7_readsComer_43 : decode cX7_readsComer 43 = .ok (.ifCond .eq 19, 3) := by decide +kernel
theorem dX7_readsComer_46 : decode cX7_readsComer 46 = .ok (.aload_n 0, 1) := by decide +kernel
theorem dX7_readsComer_47 : decode cX7_readsComer 47 = .ok (.iload_n 1, 1) := by decide +kernel
theorem dX7_readsComer_48 : decode cX7_readsComer 48 = .ok (.iconst 4, 1) := by decide +kernel
theorem dX7_readsComer_49 : decode cX7_readsComer 49 = .ok (.iadd, 1) := by decide +kernel
theorem dX7_readsComer_50 : decode cX7_readsComer 50 = .ok (.iconst 2, 1) := by decide +kernel
theorem dX7_readsComer_51 : decode cX7_readsComer 51 = .ok (.iconst 2, 1) := by decide +kernel
theorem dX7_readsComer_52 : decode cX7_readsComer 52 = .ok (.invokevirtual 103, 3) := by decide +kernel
theorem dX7_readsComer_55 : decode cX7_readsComer 55 = .ok (.ifCond .eq 7, 3) := by decide +kernel
theorem dX7_readsComer_58 : decode cX7_readsComer 58 = .ok (.iconst 1, 1) := by decide +kernel
theorem dX7_readsComer_59 : decode cX7_readsComer 59 = .ok (.goto 4, 3) := by decide +kernel
theorem dX7_readsComer_62 : decode cX7_readsComer 62 = .ok (.iconst 0, 1) := by decide +kernel
theorem dX7_readsComer_63 : decode cX7_readsComer 63 = .ok (.ireturn, 1) := by decide +kernel
theorem dX7_statement_0 : decode cX7_statement 0 = .ok (.aload_n 0, 1) := by decide +kernel
theorem dX7_statement_1 : decode cX7_statement 1 = .ok (.invokevirtual 95, 3) := by decide +kernel
theorem dX7_statement_4 : decode cX7_statement 4 = .ok (.istore_n 1, 1) := by decide +kernel
theorem dX7_statement_5 : decode cX7_statement 5 = .ok (.iload_n 1, 1) := by decide +kernel
theorem dX7_statement_6 : decode cX7_statement 6 = .ok (.bipush 115, 2) := by decide +kernel
theorem dX7_statement_8 : decode cX7_statement 8 = .ok (.if_icmp .eq 17, 3) := by decide +kernel
theorem dX7_statement_11 : decode cX7_statement 11 = .ok (.iload_n 1, 1) := by decide +kernel
theorem dX7_statement_12 : decode cX7_statement 12 = .ok (.bipush 99, 2) := by decide +kernel
theorem dX7_statement_14 : decode cX7_statement 14 = .ok (.if_icmp .eq 11, 3) := by decide +kernel
theorem dX7_statement_17 : decode cX7_statement 17 = .ok (.iload_n 1, 1) := by decide +kernel
theorem dX7_statement_18 : decode cX7_statement 18 = .ok (.bipush 107, 2) := by decide +kernel
theorem dX7_statement_20 : decode cX7_statement 20 = .ok (.if_icmp .eq 5, 3) := by decide +kernel
theorem dX7_statement_23 : decode cX7_statement 23 = .ok (.iconst 0, 1) := by decide +kernel
theorem dX7_statement_24 : decode cX7_statement 24 = .ok (.ireturn, 1) := by decide +kernel
theorem dX7_statement_25 : decode cX7_statement 25 = .ok (.aload_n 0, 1) := by decide +kernel
theorem dX7_statement_26 : decode cX7_statement 26 = .ok (.getfield 58, 3) := by decide +kernel
theorem dX7_statement_29 : decode cX7_statement 29 = .ok (.aload_n 0, 1) := by decide +kernel
theorem dX7_statement_30 : decode cX7_statement 30 = .ok (.getfield 106, 3) := by decide +kernel
theorem dX7_statement_33 : decode cX7_statement 33 = .ok (.iload_n 1, 1) := by decide +kernel
theorem dX7_statement_34 : decode cX7_statement 34 = .ok (.iastore, 1) := by decide +kernel
theorem dX7_statement_35 : decode cX7_statement 35 = .ok (.aload_n 0, 1) := by decide +kernel
theorem dX7_statement_36 : decode cX7_statement 36 = .ok (.getfield 61, 3) := by decide +kernel
theorem dX7_statement_39 : decode cX7_statement 39 = .ok (.aload_n 0, 1) := by decide +kernel
theorem dX7_statement_40 : decode cX7_statement 40 = .ok (.getfield 106, 3) := by decide +kernel
theorem dX7_statement_43 : decode cX7_statement 43 = .ok (.aload_n 0, 1) := by decide +kernel
theorem dX7_statement_44 : decode cX7_statement 44 = .ok (.getfield 92, 3) := by decide +kernel
theorem dX7_statement_47 : decode cX7_statement 47 = .ok (.iastore, 1) := by decide +kernel
theorem dX7_statement_48 : decode cX7_statement 48 = .ok (.aload_n 0, 1) := by decide +kernel
theorem dX7_statement_49 : decode cX7_statement 49 = .ok (.dup, 1) := by decide +kernel
theorem dX7_statement_50 : decode cX7_statement 50 = .ok (.getfield 92, 3) := by decide +kernel
theorem dX7_statement_53 : decode cX7_statement 53 = .ok (.iconst 1, 1) := by decide +kernel
theorem dX7_statement_54 : decode cX7_statement 54 = .ok (.iadd, 1) := by decide +kernel
theorem dX7_statement_55 : decode cX7_statement 55 = .ok (.putfield 92, 3) := by decide +kernel
end
section
theorem dX7_statement_58 : decode cX7_statement 58 = .ok (.iconst 5, 1) := by decide +kernel
theorem dX7_statement_59 : decode cX7_statement 59 = .ok (.aload_n 0, 1) := by decide +kernel
theorem dX7_statement_60 : decode cX7_statement 60 = .ok (.getfield 106, 3) := by decide +kernel
theorem dX7_statement_63 : decode cX7_statement 63 = .ok (.imul, 1) := by decide +kernel
theorem dX7_statement_64 : decode cX7_statement 64 = .ok (.istore_n 2, 1) := by decide +kernel
theorem dX7_statement_65 : decode cX7_statement 65 = .ok (.iload_n 1, 1) := by decide +kernel
theorem dX7_statement_66 : decode cX7_statement 66 = .ok (.bipush 115, 2) := by decide +kernel
theorem dX7_statement_68 : decode cX7_statement 68 = .ok (.if_icmp .ne 11, 3) := by decide +kernel
theorem dX7_statement_71 : decode cX7_statement 71 = .ok (.aload_n 0, 1) := by decide +kernel
theorem dX7_statement_72 : decode cX7_statement 72 = .ok (.iload_n 2, 1) := by decide +kernel
theorem dX7_statement_73 : decode cX7_statement 73 = .ok (.invokevirtual 109, 3) := by decide +kernel
theorem dX7_statement_76 : decode cX7_statement 76 = .ok (.goto 56, 3) := by decide +kernel
theorem dX7_statement_79 : decode cX7_statement 79 = .ok (.iload_n 1, 1) := by decide +kernel
theorem dX7_statement_80 : decode cX7_statement 80 = .ok (.bipush 99, 2) := by decide +kernel
theorem dX7_statement_82 : decode cX7_statement 82 = .ok (.if_icmp .ne 11, 3) := by decide +kernel
theorem dX7_statement_85 : decode cX7_statement 85 = .ok (.aload_n 0, 1) := by decide +kernel
theorem dX7_statement_86 : decode cX7_statement 86 = .ok (.iload_n 2, 1) := by decide +kernel
theorem dX7_statement_87 : decode cX7_statement 87 = .ok (.invokevirtual 113, 3) := by decide +kernel
theorem dX7_statement_90 : decode cX7_statement 90 = .ok (.goto 42, 3) := by decide +kernel
theorem dX7_statement_93 : decode cX7_statement 93 = .ok (.aload_n 0, 1) := by decide +kernel
theorem dX7_statement_94 : decode cX7_statement 94 = .ok (.iload_n 2, 1) := by decide +kernel
theorem dX7_statement_95 : decode cX7_statement 95 = .ok (.iconst 1, 1) := by decide +kernel
theorem dX7_statement_96 : decode cX7_statement 96 = .ok (.iconst 1, 1) := by decide +kernel
theorem dX7_statement_97 : decode cX7_statement 97 = .ok (.invokevirtual 103, 3) := by decide +kernel
theorem dX7_statement_100 : decode cX7_statement 100 = .ok (.ifCond .eq 31, 3) := by decide +kernel
theorem dX7_statement_103 : decode cX7_statement 103 = .ok (.aload_n 0, 1) := by decide +kernel
theorem dX7_statement_104 : decode cX7_statement 104 = .ok (.iload_n 2, 1) := by decide +kernel
theorem dX7_statement_105 : decode cX7_statement 105 = .ok (.iconst 1, 1) := by decide +kernel
theorem dX7_statement_106 : decode cX7_statement 106 = .ok (.iadd, 1) := by decide +kernel
theorem dX7_statement_107 : decode cX7_statement 107 = .ok (.iconst 1, 1) := by decide +kernel
theorem dX7_statement_108 : decode cX7_statement 108 = .ok (.iconst 1, 1) := by decide +kernel
theorem dX7_statement_109 : decode cX7_statement 109 = .ok (.invokevirtual 103, 3) := by decide +kernel
theorem dX7_statement_112 : decode cX7_statement 112 = .ok (.ifCond .eq 19, 3) := by decide +kernel
theorem dX7_statement_115 : decode cX7_statement 115 = .ok (.aload_n 0, 1) := by decide +kernel
theorem dX7_statement_116 : decode cX7_statement 116 = .ok (.iload_n 2, 1) := by decide +kernel
theorem dX7_statement_117 : decode cX7_statement 117 = .ok (.iconst 2, 1) := by decide +kernel
theorem dX7_statement_118 : decode cX7_statement 118 = .ok (.iadd, 1) := by decide +kernel
theorem dX7_statement_119 : decode cX7_statement 119 = .ok (.iconst 1, 1) := by decide +kernel
theorem dX7_statement_120 : decode cX7_statement 120 = .ok (.iconst 1, 1) := by decide +kernel
theorem dX7_statement_121 : decode cX7_statement 121 = .ok (.invokevirtual 103, 3) := by decide +kernel
theorem dX7_statement_124 : decode cX7_statement 124 = .ok (.ifCond .eq 7, 3) := by decide +kernel
theorem dX7_statement_127 : decode cX7_statement 127 = .ok (.iconst 1, 1) := by decide +kernel
theorem dX7_statement_128 : decode cX7_statement 128 = .ok (.goto 4, 3) := by decide +kernel
theorem dX7_statement_131 : decode cX7_statement 131 = .ok (.iconst 0, 1) := by decide +kernel
theorem dX7_statement_132 : decode cX7_statement 132 = .ok (.istore_n 3, 1) := by decide +kernel
theorem dX7_statement_133 : decode cX7_statement 133 = .ok (.iload_n 3, 1) := by decide +kernel
theorem dX7_statement_134 : decode cX7_statement 134 = .ok (.ifCond .eq 12, 3) := by decide +kernel
theorem dX7_statement_137 : decode cX7_statement 137 = .ok (.aload_n 0, 1) := by decide +kernel
theorem dX7_statement_138 : decode cX7_statement 138 = .ok (.invokevirtual 95, 3) := by decide +kernel
theorem dX7_statement_141 : decode cX7_statement 141 = .ok (.bipush 59, 2) := by decide +kernel
theorem dX7_statement_143 : decode cX7_statement 143 = .ok (.if_icmp .eq 5, 3) := by decide +kernel
theorem dX7_statement_146 : decode cX7_statement 146 = .ok (.iconst 0, 1) := by decide +kernel
theorem dX7_statement_147 : decode cX7_statement 147 = .ok (.ireturn, 1) := by decide +kernel
theorem dX7_statement_148 : decode cX7_statement 148 = .ok (.aload_n 0, 1) := by decide +kernel
theorem dX7_statement_149 : decode cX7_statement 149 = .ok (.dup, 1) := by decide +kernel
theorem dX7_statement_150 : decode cX7_statement 150 = .ok (.getfield 92, 3) := by decide +kernel
theorem dX7_statement_153 : decode cX7_statement 153 = .ok (.iconst 1, 1) := by decide +kernel
theorem dX7_statement_154 : decode cX7_statement 154 = .ok (.iadd, 1) := by decide +kernel
theorem dX7_statement_155 : decode cX7_statement 155 = .ok (.putfield 92, 3) := by decide +kernel
theorem dX7_statement_158 : decode cX7_statement 158 = .ok (.iconst 1, 1) := by decide +kernel
theorem dX7_statement_159 : decode cX7_statement 159 = .ok (.ireturn, 1) := by decide +kernel
theorem dX7_notSet_0 : decode cX7_notSet 0 = .ok (.iload_n 1, 1) := by decide +kernel
theorem dX7_notSet_1 : decode cX7_notSet 1 = .ok (.iconst 0, 1) := by decide +kernel
theorem dX7_notSet_2 : decode cX7_notSet 2 = .ok (.bipush 7, 2) := by decide +kernel
theorem dX7_notSet_4 : decode cX7_notSet 4 = .ok (.invokestatic 99, 3) := by decide +kernel
theorem dX7_notSet_7 : decode cX7_notSet 7 = .ok (.ifCond .ne 5, 3) := by decide +kernel
theorem dX7_notSet_10 : decode cX7_notSet 10 = .ok (.iconst (-1), 1) := by decide +kernel
theorem dX7_notSet_11 : decode cX7_notSet 11 = .ok (.ireturn, 1) := by decide +kernel
theorem dX7_notSet_12 : decode cX7_notSet 12 = .ok (.iload_n 2, 1) := by decide +kernel
theorem dX7_notSet_13 : decode cX7_notSet 13 = .ok (.iload_n 1, 1) := by decide +kernel
theorem dX7_notSet_14 : decode cX7_notSet 14 = .ok (.invokestatic 116, 3) := by decide +kernel
theorem dX7_notSet_17 : decode cX7_notSet 17 = .ok (.iload_n 1, 1) := by decide +kernel
theorem dX7_notSet_18 : decode cX7_notSet 18 = .ok (.invokestatic 119, 3) := by decide +kernel
theorem dX7_notSet_21 : decode cX7_notSet 21 = .ok (.invokestatic 81, 3) := by decide +kernel
theorem dX7_notSet_24 : decode cX7_notSet 24 = .ok (.istore_n 3, 1) := by decide +kernel
theorem dX7_notSet_25 : decode cX7_notSet 25 = .ok (.iload_n 3, 1) := by decide +kernel
theorem dX7_notSet_26 : decode cX7_notSet 26 = .ok (.ifCond .eq 5, 3) := by decide +kernel
theorem dX7_notSet_29 : decode cX7_notSet 29 = .ok (.iload_n 3, 1) := by decide +kernel
theorem dX7_notSet_30 : decode cX7_notSet 30 = .ok (.ireturn, 1) := by decide +kernel
theorem dX7_notSet_31 : decode cX7_notSet 31 = .ok (.iload_n 1, 1) := by decide +kernel
theorem dX7_notSet_32 : decode cX7_notSet 32 = .ok (.ifCond .ne 23, 3) := by decide +kernel
theorem dX7_notSet_35 : decode cX7_notSet 35 = .ok (.iload_n 2, 1) := by decide +kernel
theorem dX7_notSet_36 : decode cX7_notSet 36 = .ok (.aload_n 0, 1) := by decide +kernel
theorem dX7_notSet_37 : decode cX7_notSet 37 = .ok (.getfield 40, 3) := by decide +kernel
theorem dX7_notSet_40 : decode cX7_notSet 40 = .ok (.iconst 0, 1) := by decide +kernel
theorem dX7_notSet_41 : decode cX7_notSet 41 = .ok (.iaload, 1) := by decide +kernel
theorem dX7_notSet_42 : decode cX7_notSet 42 = .ok (.if_icmp .lt 37, 3) := by decide +kernel
theorem dX7_notSet_45 : decode cX7_notSet 45 = .ok (.iload_n 2, 1) := by decide +kernel
theorem dX7_notSet_46 : decode cX7_notSet 46 = .ok (.aload_n 0, 1) := by decide +kernel
theorem dX7_notSet_47 : decode cX7_notSet 47 = .ok (.getfield 40, 3) := by decide +kernel
theorem dX7_notSet_50 : decode cX7_notSet 50 = .ok (.iconst 1, 1) := by decide +kernel
theorem dX7_notSet_51 : decode cX7_notSet 51 = .ok (.iaload, 1) := by decide +kernel
theorem dX7_notSet_52 : decode cX7_notSet 52 = .ok (.if_icmp .lt 27, 3) := by decide +kernel
theorem dX7_notSet_55 : decode cX7_notSet 55 = .ok (.iload_n 1, 1) := by decide +kernel
theorem dX7_notSet_56 : decode cX7_notSet 56 = .ok (.bipush 7, 2) := by decide +kernel
theorem dX7_notSet_58 : decode cX7_notSet 58 = .ok (.if_icmp .ne 25, 3) := by decide +kernel
theorem dX7_notSet_61 : decode cX7_notSet 61 = .ok (.iload_n 2, 1) := by decide +kernel
theorem dX7_notSet_62 : decode cX7_notSet 62 = .ok (.aload_n 0, 1) := by decide +kernel
theorem dX7_notSet_63 : decode cX7_notSet 63 = .ok (.getfield 13, 3) := by decide +kernel
theorem dX7_notSet_66 : decode cX7_notSet 66 = .ok (.bipush 7, 2) := by decide +kernel
theorem dX7_notSet_68 : decode cX7_notSet 68 = .ok (.iaload, 1) := by decide +kernel
theorem dX7_notSet_69 : decode cX7_notSet 69 = .ok (.if_icmp .eq 14, 3) := by decide +kernel
theorem dX7_notSet_72 : decode cX7_notSet 72 = .ok (.aload_n 0, 1) := by decide +kernel
theorem dX7_notSet_73 : decode cX7_notSet 73 = .ok (.getfield 122, 3) := by decide +kernel
theorem dX7_notSet_76 : decode cX7_notSet 76 = .ok (.ifCond .le 7, 3) := by decide +kernel
theorem dX7_notSet_79 : decode cX7_notSet 79 = .ok (.iconst 1, 1) := by decide +kernel
theorem dX7_notSet_80 : decode cX7_notSet 80 = .ok (.goto 4, 3) := by decide +kernel
theorem dX7_notSet_83 : decode cX7_notSet 83 = .ok (.iconst 0, 1) := by decide +kernel
theorem dX7_notSet_84 : decode cX7_notSet 84 = .ok (.istore 4, 2) := by decide +kernel
theorem dX7_notSet_86 : decode cX7_notSet 86 = .ok (.iload 4, 2) := by decide +kernel
theorem dX7_notSet_88 : decode cX7_notSet 88 = .ok (.ifCond .eq 8, 3) := by decide +kernel
theorem dX7_notSet_91 : decode cX7_notSet 91 = .ok (.bipush (-3), 2) := by decide +kernel
theorem dX7_notSet_93 : decode cX7_notSet 93 = .ok (.goto 4, 3) := by decide +kernel
theorem dX7_notSet_96 : decode cX7_notSet 96 = .ok (.iconst 0, 1) := by decide +kernel
theorem dX7_notSet_97 : decode cX7_notSet 97 = .ok (.ireturn, 1) := by decide +kernel
theorem dX7_comesOne_0 : decode cX7_comesOne 0 = .ok (.aload_n 0, 1) := by decide +kernel
theorem dX7_comesOne_1 : decode cX7_comesOne 1 = .ok (.getfield 64, 3) := by decide +kernel
theorem dX7_comesOne_4 : decode cX7_comesOne 4 = .ok (.iload_n 1, 1) := by decide +kernel
theorem dX7_comesOne_5 : decode cX7_comesOne 5 = .ok (.iaload, 1) := by decide +kernel
theorem dX7_comesOne_6 : decode cX7_comesOne 6 = .ok (.bipush 6, 2) := by decide +kernel
theorem dX7_comesOne_8 : decode cX7_comesOne 8 = .ok (.if_icmp .gt 69, 3) := by decide +kernel
theorem dX7_comesOne_11 : decode cX7_comesOne 11 = .ok (.aload_n 0, 1) := by decide +kernel
theorem dX7_comesOne_12 : decode cX7_comesOne 12 = .ok (.getfield 64, 3) := by decide +kernel
theorem dX7_comesOne_15 : decode cX7_comesOne 15 = .ok (.iload_n 1, 1) := by decide +kernel
theorem dX7_comesOne_16 : decode cX7_comesOne 16 = .ok (.iconst 2, 1) := by decide +kernel
theorem dX7_comesOne_17 : decode cX7_comesOne 17 = .ok (.iadd, 1) := by decide +kernel
theorem dX7_comesOne_18 : decode cX7_comesOne 18 = .ok (.iaload, 1) := by decide +kernel
theorem dX7_comesOne_19 : decode cX7_comesOne 19 = .ok (.bipush 119, 2) := by decide +kernel
theorem dX7_comesOne_21 : decode cX7_comesOne 21 = .ok (.if_icmp .gt 56, 3) := by decide +kernel
theorem dX7_comesOne_24 : decode cX7_comesOne 24 = .ok (.aload_n 0, 1) := by decide +kernel
theorem dX7_comesOne_25 : decode cX7_comesOne 25 = .ok (.getfield 64, 3) := by decide +kernel
theorem dX7_comesOne_28 : decode cX7_comesOne 28 = .ok (.iload_n 1, 1) := by decide +kernel
theorem dX7_comesOne_29 : decode cX7_comesOne 29 = .ok (.iconst 2, 1) := by decide +kernel
theorem dX7_comesOne_30 : decode cX7_comesOne 30 = .ok (.iadd, 1) := by decide +kernel
theorem dX7_comesOne_31 : decode cX7_comesOne 31 = .ok (.iaload, 1) := by decide +kernel
theorem dX7_comesOne_32 : decode cX7_comesOne 32 = .ok (.aload_n 0, 1) := by decide +kernel
theorem dX7_comesOne_33 : decode cX7_comesOne 33 = .ok (.getfield 122, 3) := by decide +kernel
theorem dX7_comesOne_36 : decode cX7_comesOne 36 = .ok (.if_icmp .lt 41, 3) := by decide +kernel
theorem dX7_comesOne_39 : decode cX7_comesOne 39 = .ok (.aload_n 0, 1) := by decide +kernel
theorem dX7_comesOne_40 : decode cX7_comesOne 40 = .ok (.getfield 64, 3) := by decide +kernel
theorem dX7_comesOne_43 : decode cX7_comesOne 43 = .ok (.iload_n 1, 1) := by decide +kernel
theorem dX7_comesOne_44 : decode cX7_comesOne 44 = .ok (.iconst 3, 1) := by decide +kernel
theorem dX7_comesOne_45 : decode cX7_comesOne 45 = .ok (.iadd, 1) := by decide +kernel
theorem dX7_comesOne_46 : decode cX7_comesOne 46 = .ok (.iaload, 1) := by decide +kernel
theorem dX7_comesOne_47 : decode cX7_comesOne 47 = .ok (.iconst 1, 1) := by decide +kernel
theorem dX7_comesOne_48 : decode cX7_comesOne 48 = .ok (.iconst 3, 1) := by decide +kernel
theorem dX7_comesOne_49 : decode cX7_comesOne 49 = .ok (.invokestatic 99, 3) := by decide +kernel
theorem dX7_comesOne_52 : decode cX7_comesOne 52 = .ok (.ifCond .eq 25, 3) := by decide +kernel
theorem dX7_comesOne_55 : decode cX7_comesOne 55 = .ok (.aload_n 0, 1) := by decide +kernel
theorem dX7_comesOne_56 : decode cX7_comesOne 56 = .ok (.getfield 64, 3) := by decide +kernel
theorem dX7_comesOne_59 : decode cX7_comesOne 59 = .ok (.iload_n 1, 1) := by decide +kernel
theorem dX7_comesOne_60 : decode cX7_comesOne 60 = .ok (.iconst 4, 1) := by decide +kernel
theorem dX7_comesOne_61 : decode cX7_comesOne 61 = .ok (.iadd, 1) := by decide +kernel
theorem dX7_comesOne_62 : decode cX7_comesOne 62 = .ok (.iaload, 1) := by decide +kernel
theorem dX7_comesOne_63 : decode cX7_comesOne 63 = .ok (.bipush 30, 2) := by decide +kernel
theorem dX7_comesOne_65 : decode cX7_comesOne 65 = .ok (.if_icmp .gt 12, 3) := by decide +kernel
theorem dX7_comesOne_68 : decode cX7_comesOne 68 = .ok (.aload_n 0, 1) := by decide +kernel
theorem dX7_comesOne_69 : decode cX7_comesOne 69 = .ok (.getfield 77, 3) := by decide +kernel
theorem dX7_comesOne_72 : decode cX7_comesOne 72 = .ok (.bipush 8, 2) := by decide +kernel
theorem dX7_comesOne_74 : decode cX7_comesOne 74 = .ok (.if_icmp .ne 5, 3) := by decide +kernel
theorem dX7_comesOne_77 : decode cX7_comesOne 77 = .ok (.iconst 0, 1) := by decide +kernel
theorem dX7_comesOne_78 : decode cX7_comesOne 78 = .ok (.ireturn, 1) := by decide +kernel
theorem dX7_comesOne_79 : decode cX7_comesOne 79 = .ok (.aload_n 0, 1) := by decide +kernel
theorem dX7_comesOne_80 : decode cX7_comesOne 80 = .ok (.getfield 16, 3) := by decide +kernel
theorem dX7_comesOne_83 : decode cX7_comesOne 83 = .ok (.aload_n 0, 1) := by decide +kernel
theorem dX7_comesOne_84 : decode cX7_comesOne 84 = .ok (.getfield 77, 3) := by decide +kernel
theorem dX7_comesOne_87 : decode cX7_comesOne 87 = .ok (.aload_n 0, 1) := by decide +kernel
theorem dX7_comesOne_88 : decode cX7_comesOne 88 = .ok (.getfield 64, 3) := by decide +kernel
theorem dX7_comesOne_91 : decode cX7_comesOne 91 = .ok (.iload_n 1, 1) := by decide +kernel
theorem dX7_comesOne_92 : decode cX7_comesOne 92 = .ok (.iaload, 1) := by decide +kernel
theorem dX7_comesOne_93 : decode cX7_comesOne 93 = .ok (.iastore, 1) := by decide +kernel
theorem dX7_comesOne_94 : decode cX7_comesOne 94 = .ok (.aload_n 0, 1) := by decide +kernel
theorem dX7_comesOne_95 : decode cX7_comesOne 95 = .ok (.getfield 19, 3) := by decide +kernel
theorem dX7_comesOne_98 : decode cX7_comesOne 98 = .ok (.aload_n 0, 1) := by decide +kernel
theorem dX7_comesOne_99 : decode cX7_comesOne 99 = .ok (.getfield 77, 3) := by decide +kernel
theorem dX7_comesOne_102 : decode cX7_comesOne 102 = .ok (.aload_n 0, 1) := by decide +kernel
theorem dX7_comesOne_103 : decode cX7_comesOne 103 = .ok (.getfield 64, 3) := by decide +kernel
theorem dX7_comesOne_106 : decode cX7_comesOne 106 = .ok (.iload_n 1, 1) := by decide +kernel
theorem dX7_comesOne_107 : decode cX7_comesOne 107 = .ok (.iconst 1, 1) := by decide +kernel
theorem dX7_comesOne_108 : decode cX7_comesOne 108 = .ok (.iadd, 1) := by decide +kernel
theorem dX7_comesOne_109 : decode cX7_comesOne 109 = .ok (.iaload, 1) := by decide +kernel
theorem dX7_comesOne_110 : decode cX7_comesOne 110 = .ok (.iastore, 1) := by decide +kernel
theorem dX7_comesOne_111 : decode cX7_comesOne 111 = .ok (.aload_n 0, 1) := by decide +kernel
theorem dX7_comesOne_112 : decode cX7_comesOne 112 = .ok (.getfield 22, 3) := by decide +kernel
theorem dX7_comesOne_115 : decode cX7_comesOne 115 = .ok (.aload_n 0, 1) := by decide +kernel
theorem dX7_comesOne_116 : decode cX7_comesOne 116 = .ok (.getfield 77, 3) := by decide +kernel
theorem dX7_comesOne_119 : decode cX7_comesOne 119 = .ok (.aload_n 0, 1) := by decide +kernel
theorem dX7_comesOne_120 : decode cX7_comesOne 120 = .ok (.getfield 64, 3) := by decide +kernel
theorem dX7_comesOne_123 : decode cX7_comesOne 123 = .ok (.iload_n 1, 1) := by decide +kernel
theorem dX7_comesOne_124 : decode cX7_comesOne 124 = .ok (.iconst 2, 1) := by decide +kernel
theorem dX7_comesOne_125 : decode cX7_comesOne 125 = .ok (.iadd, 1) := by decide +kernel
theorem dX7_comesOne_126 : decode cX7_comesOne 126 = .ok (.iaload, 1) := by decide +kernel
theorem dX7_comesOne_127 : decode cX7_comesOne 127 = .ok (.iastore, 1) := by decide +kernel
theorem dX7_comesOne_128 : decode cX7_comesOne 128 = .ok (.aload_n 0, 1) := by decide +kernel
theorem dX7_comesOne_129 : decode cX7_comesOne 129 = .ok (.getfield 25, 3) := by decide +kernel
theorem dX7_comesOne_132 : decode cX7_comesOne 132 = .ok (.aload_n 0, 1) := by decide +kernel
theorem dX7_comesOne_133 : decode cX7_comesOne 133 = .ok (.getfield 77, 3) := by decide +kernel
theorem dX7_comesOne_136 : decode cX7_comesOne 136 = .ok (.aload_n 0, 1) := by decide +kernel
theorem dX7_comesOne_137 : decode cX7_comesOne 137 = .ok (.getfield 64, 3) := by decide +kernel
theorem dX7_comesOne_140 : decode cX7_comesOne 140 = .ok (.iload_n 1, 1) := by decide +kernel
theorem dX7_comesOne_141 : decode cX7_comesOne 141 = .ok (.iconst 3, 1) := by decide +kernel
theorem dX7_comesOne_142 : decode cX7_comesOne 142 = .ok (.iadd, 1) := by decide +kernel
theorem dX7_comesOne_143 : decode cX7_comesOne 143 = .ok (.iaload, 1) := by decide +kernel
theorem dX7_comesOne_144 : decode cX7_comesOne 144 = .ok (.iastore, 1) := by decide +kernel
theorem dX7_comesOne_145 : decode cX7_comesOne 145 = .ok (.aload_n 0, 1) := by decide +kernel
theorem dX7_comesOne_146 : decode cX7_comesOne 146 = .ok (.getfield 28, 3) := by decide +kernel
theorem dX7_comesOne_149 : decode cX7_comesOne 149 = .ok (.aload_n 0, 1) := by decide +kernel
theorem dX7_comesOne_150 : decode cX7_comesOne 150 = .ok (.getfield 77, 3) := by decide +kernel
theorem dX7_comesOne_153 : decode cX7_comesOne 153 = .ok (.aload_n 0, 1) := by decide +kernel
theorem dX7_comesOne_154 : decode cX7_comesOne 154 = .ok (.getfield 64, 3) := by decide +kernel
theorem dX7_comesOne_157 : decode cX7_comesOne 157 = .ok (.iload_n 1, 1) := by decide +kernel
theorem dX7_comesOne_158 : decode cX7_comesOne 158 = .ok (.iconst 4, 1) := by decide +kernel
theorem dX7_comesOne_159 : decode cX7_comesOne 159 = .ok (.iadd, 1) := by decide +kernel
theorem dX7_comesOne_160 : decode cX7_comesOne 160 = .ok (.iaload, 1) := by decide +kernel
theorem dX7_comesOne_161 : decode cX7_comesOne 161 = .ok (.iastore, 1) := by decide +kernel
theorem dX7_comesOne_162 : decode cX7_comesOne 162 = .ok (.aload_n 0, 1) := by decide +kernel
theorem dX7_comesOne_163 : decode cX7_comesOne 163 = .ok (.getfield 31, 3) := by decide +kernel
theorem dX7_comesOne_166 : decode cX7_comesOne 166 = .ok (.aload_n 0, 1) := by decide +kernel
theorem dX7_comesOne_167 : decode cX7_comesOne 167 = .ok (.getfield 77, 3) := by decide +kernel
theorem dX7_comesOne_170 : decode cX7_comesOne 170 = .ok (.iconst 0, 1) := by decide +kernel
theorem dX7_comesOne_171 : decode cX7_comesOne 171 = .ok (.iastore, 1) := by decide +kernel
theorem dX7_comesOne_172 : decode cX7_comesOne 172 = .ok (.aload_n 0, 1) := by decide +kernel
theorem dX7_comesOne_173 : decode cX7_comesOne 173 = .ok (.getfield 34, 3) := by decide +kernel
theorem dX7_comesOne_176 : decode cX7_comesOne 176 = .ok (.aload_n 0, 1) := by decide +kernel
theorem dX7_comesOne_177 : decode cX7_comesOne 177 = .ok (.getfield 77, 3) := by decide +kernel
theorem dX7_comesOne_180 : decode cX7_comesOne 180 = .ok (.iconst 0, 1) := by decide +kernel
theorem dX7_comesOne_181 : decode cX7_comesOne 181 = .ok (.iastore, 1) := by decide +kernel
theorem dX7_comesOne_182 : decode cX7_comesOne 182 = .ok (.aload_n 0, 1) := by decide +kernel
theorem dX7_comesOne_183 : decode cX7_comesOne 183 = .ok (.dup, 1) := by decide +kernel
theorem dX7_comesOne_184 : decode cX7_comesOne 184 = .ok (.getfield 77, 3) := by decide +kernel
theorem dX7_comesOne_187 : decode cX7_comesOne 187 = .ok (.iconst 1, 1) := by decide +kernel
theorem dX7_comesOne_188 : decode cX7_comesOne 188 = .ok (.iadd, 1) := by decide +kernel
theorem dX7_comesOne_189 : decode cX7_comesOne 189 = .ok (.putfield 77, 3) := by decide +kernel
theorem dX7_comesOne_192 : decode cX7_comesOne 192 = .ok (.iconst 1, 1) := by decide +kernel
theorem dX7_comesOne_193 : decode cX7_comesOne 193 = .ok (.ireturn, 1) := by decide +kernel
theorem dX7_comesAs_0 : decode cX7_comesAs 0 = .ok (.iconst 5, 1) := by decide +kernel
theorem dX7_comesAs_1 : decode cX7_comesAs 1 = .ok (.iload_n 1, 1) := by decide +kernel
theorem dX7_comesAs_2 : decode cX7_comesAs 2 = .ok (.imul, 1) := by decide +kernel
theorem dX7_comesAs_3 : decode cX7_comesAs 3 = .ok (.istore_n 2, 1) := by decide +kernel
theorem dX7_comesAs_4 : decode cX7_comesAs 4 = .ok (.aload_n 0, 1) := by decide +kernel
theorem dX7_comesAs_5 : decode cX7_comesAs 5 = .ok (.getfield 58, 3) := by decide +kernel
theorem dX7_comesAs_8 : decode cX7_comesAs 8 = .ok (.iload_n 1, 1) := by decide +kernel
theorem dX7_comesAs_9 : decode cX7_comesAs 9 = .ok (.iaload, 1) := by decide +kernel
theorem dX7_comesAs_10 : decode cX7_comesAs 10 = .ok (.lookupswitch 76 #[(99, 70), (115, 26)], 26) := by decide +kernel
theorem dX7_comesAs_36 : decode cX7_comesAs 36 = .ok (.aload_n 0, 1) := by decide +kernel
theorem dX7_comesAs_37 : decode cX7_comesAs 37 = .ok (.aload_n 0, 1) := by decide +kernel
theorem dX7_comesAs_38 : decode cX7_comesAs 38 = .ok (.getfield 64, 3) := by decide +kernel
theorem dX7_comesAs_41 : decode cX7_comesAs 41 = .ok (.iload_n 2, 1) := by decide +kernel
theorem dX7_comesAs_42 : decode cX7_comesAs 42 = .ok (.iaload, 1) := by decide +kernel
theorem dX7_comesAs_43 : decode cX7_comesAs 43 = .ok (.aload_n 0, 1) := by decide +kernel
theorem dX7_comesAs_44 : decode cX7_comesAs 44 = .ok (.getfield 64, 3) := by decide +kernel
theorem dX7_comesAs_47 : decode cX7_comesAs 47 = .ok (.iload_n 2, 1) := by decide +kernel
theorem dX7_comesAs_48 : decode cX7_comesAs 48 = .ok (.iconst 1, 1) := by decide +kernel
theorem dX7_comesAs_49 : decode cX7_comesAs 49 = .ok (.iadd, 1) := by decide +kernel
theorem dX7_comesAs_50 : decode cX7_comesAs 50 = .ok (.iaload, 1) := by decide +kernel
theorem dX7_comesAs_51 : decode cX7_comesAs 51 = .ok (.invokevirtual 125, 3) := by decide +kernel
theorem dX7_comesAs_54 : decode cX7_comesAs 54 = .ok (.ifCond .eq 5, 3) := by decide +kernel
theorem dX7_comesAs_57 : decode cX7_comesAs 57 = .ok (.iconst 0, 1) := by decide +kernel
theorem dX7_comesAs_58 : decode cX7_comesAs 58 = .ok (.ireturn, 1) := by decide +kernel
theorem dX7_comesAs_59 : decode cX7_comesAs 59 = .ok (.aload_n 0, 1) := by decide +kernel
theorem dX7_comesAs_60 : decode cX7_comesAs 60 = .ok (.getfield 13, 3) := by decide +kernel
theorem dX7_comesAs_63 : decode cX7_comesAs 63 = .ok (.aload_n 0, 1) := by decide +kernel
theorem dX7_comesAs_64 : decode cX7_comesAs 64 = .ok (.getfield 64, 3) := by decide +kernel
theorem dX7_comesAs_67 : decode cX7_comesAs 67 = .ok (.iload_n 2, 1) := by decide +kernel
theorem dX7_comesAs_68 : decode cX7_comesAs 68 = .ok (.iaload, 1) := by decide +kernel
theorem dX7_comesAs_69 : decode cX7_comesAs 69 = .ok (.aload_n 0, 1) := by decide +kernel
theorem dX7_comesAs_70 : decode cX7_comesAs 70 = .ok (.getfield 64, 3) := by decide +kernel
theorem dX7_comesAs_73 : decode cX7_comesAs 73 = .ok (.iload_n 2, 1) := by decide +kernel
theorem dX7_comesAs_74 : decode cX7_comesAs 74 = .ok (.iconst 1, 1) := by decide +kernel
theorem dX7_comesAs_75 : decode cX7_comesAs 75 = .ok (.iadd, 1) := by decide +kernel
theorem dX7_comesAs_76 : decode cX7_comesAs 76 = .ok (.iaload, 1) := by decide +kernel
theorem dX7_comesAs_77 : decode cX7_comesAs 77 = .ok (.iastore, 1) := by decide +kernel
theorem dX7_comesAs_78 : decode cX7_comesAs 78 = .ok (.iconst 1, 1) := by decide +kernel
theorem dX7_comesAs_79 : decode cX7_comesAs 79 = .ok (.ireturn, 1) := by decide +kernel
theorem dX7_comesAs_80 : decode cX7_comesAs 80 = .ok (.aload_n 0, 1) := by decide +kernel
theorem dX7_comesAs_81 : decode cX7_comesAs 81 = .ok (.iload_n 2, 1) := by decide +kernel
theorem dX7_comesAs_82 : decode cX7_comesAs 82 = .ok (.invokevirtual 129, 3) := by decide +kernel
theorem dX7_comesAs_85 : decode cX7_comesAs 85 = .ok (.ireturn, 1) := by decide +kernel
theorem dX7_comesAs_86 : decode cX7_comesAs 86 = .ok (.aload_n 0, 1) := by decide +kernel
theorem dX7_comesAs_87 : decode cX7_comesAs 87 = .ok (.aload_n 0, 1) := by decide +kernel
theorem dX7_comesAs_88 : decode cX7_comesAs 88 = .ok (.getfield 64, 3) := by decide +kernel
theorem dX7_comesAs_91 : decode cX7_comesAs 91 = .ok (.iload_n 2, 1) := by decide +kernel
theorem dX7_comesAs_92 : decode cX7_comesAs 92 = .ok (.iaload, 1) := by decide +kernel
theorem dX7_comesAs_93 : decode cX7_comesAs 93 = .ok (.invokevirtual 132, 3) := by decide +kernel
theorem dX7_comesAs_96 : decode cX7_comesAs 96 = .ok (.ifCond .eq 16, 3) := by decide +kernel
theorem dX7_comesAs_99 : decode cX7_comesAs 99 = .ok (.aload_n 0, 1) := by decide +kernel
theorem dX7_comesAs_100 : decode cX7_comesAs 100 = .ok (.getfield 64, 3) := by decide +kernel
theorem dX7_comesAs_103 : decode cX7_comesAs 103 = .ok (.iload_n 2, 1) := by decide +kernel
theorem dX7_comesAs_104 : decode cX7_comesAs 104 = .ok (.iconst 1, 1) := by decide +kernel
theorem dX7_comesAs_105 : decode cX7_comesAs 105 = .ok (.iadd, 1) := by decide +kernel
theorem dX7_comesAs_106 : decode cX7_comesAs 106 = .ok (.iaload, 1) := by decide +kernel
theorem dX7_comesAs_107 : decode cX7_comesAs 107 = .ok (.bipush 6, 2) := by decide +kernel
theorem dX7_comesAs_109 : decode cX7_comesAs 109 = .ok (.if_icmp .le 5, 3) := by decide +kernel
theorem dX7_comesAs_112 : decode cX7_comesAs 112 = .ok (.iconst 0, 1) := by decide +kernel
theorem dX7_comesAs_113 : decode cX7_comesAs 113 = .ok (.ireturn, 1) := by decide +kernel
theorem dX7_comesAs_114 : decode cX7_comesAs 114 = .ok (.aload_n 0, 1) := by decide +kernel
theorem dX7_comesAs_115 : decode cX7_comesAs 115 = .ok (.getfield 16, 3) := by decide +kernel
theorem dX7_comesAs_118 : decode cX7_comesAs 118 = .ok (.aload_n 0, 1) := by decide +kernel
theorem dX7_comesAs_119 : decode cX7_comesAs 119 = .ok (.getfield 64, 3) := by decide +kernel
theorem dX7_comesAs_122 : decode cX7_comesAs 122 = .ok (.iload_n 2, 1) := by decide +kernel
theorem dX7_comesAs_123 : decode cX7_comesAs 123 = .ok (.iaload, 1) := by decide +kernel
theorem dX7_comesAs_124 : decode cX7_comesAs 124 = .ok (.aload_n 0, 1) := by decide +kernel
theorem dX7_comesAs_125 : decode cX7_comesAs 125 = .ok (.getfield 64, 3) := by decide +kernel
theorem dX7_comesAs_128 : decode cX7_comesAs 128 = .ok (.iload_n 2, 1) := by decide +kernel
theorem dX7_comesAs_129 : decode cX7_comesAs 129 = .ok (.iconst 1, 1) := by decide +kernel
theorem dX7_comesAs_130 : decode cX7_comesAs 130 = .ok (.iadd, 1) := by decide +kernel
theorem dX7_comesAs_131 : decode cX7_comesAs 131 = .ok (.iaload, 1) := by decide +kernel
theorem dX7_comesAs_132 : decode cX7_comesAs 132 = .ok (.iastore, 1) := by decide +kernel
theorem dX7_comesAs_133 : decode cX7_comesAs 133 = .ok (.aload_n 0, 1) := by decide +kernel
theorem dX7_comesAs_134 : decode cX7_comesAs 134 = .ok (.getfield 19, 3) := by decide +kernel
theorem dX7_comesAs_137 : decode cX7_comesAs 137 = .ok (.aload_n 0, 1) := by decide +kernel
theorem dX7_comesAs_138 : decode cX7_comesAs 138 = .ok (.getfield 64, 3) := by decide +kernel
theorem dX7_comesAs_141 : decode cX7_comesAs 141 = .ok (.iload_n 2, 1) := by decide +kernel
theorem dX7_comesAs_142 : decode cX7_comesAs 142 = .ok (.iaload, 1) := by decide +kernel
theorem dX7_comesAs_143 : decode cX7_comesAs 143 = .ok (.aload_n 0, 1) := by decide +kernel
theorem dX7_comesAs_144 : decode cX7_comesAs 144 = .ok (.getfield 64, 3) := by decide +kernel
theorem dX7_comesAs_147 : decode cX7_comesAs 147 = .ok (.iload_n 2, 1) := by decide +kernel
theorem dX7_comesAs_148 : decode cX7_comesAs 148 = .ok (.iconst 2, 1) := by decide +kernel
theorem dX7_comesAs_149 : decode cX7_comesAs 149 = .ok (.iadd, 1) := by decide +kernel
theorem dX7_comesAs_150 : decode cX7_comesAs 150 = .ok (.iaload, 1) := by decide +kernel
theorem dX7_comesAs_151 : decode cX7_comesAs 151 = .ok (.iastore, 1) := by decide +kernel
theorem dX7_comesAs_152 : decode cX7_comesAs 152 = .ok (.iconst 1, 1) := by decide +kernel
theorem dX7_comesAs_153 : decode cX7_comesAs 153 = .ok (.ireturn, 1) := by decide +kernel
theorem dX7_office_0 : decode cX7_office 0 = .ok (.aload_n 0, 1) := by decide +kernel
theorem dX7_office_1 : decode cX7_office 1 = .ok (.iconst 0, 1) := by decide +kernel
theorem dX7_office_2 : decode cX7_office 2 = .ok (.putfield 92, 3) := by decide +kernel
theorem dX7_office_5 : decode cX7_office 5 = .ok (.aload_n 0, 1) := by decide +kernel
theorem dX7_office_6 : decode cX7_office 6 = .ok (.iconst 0, 1) := by decide +kernel
theorem dX7_office_7 : decode cX7_office 7 = .ok (.putfield 106, 3) := by decide +kernel
theorem dX7_office_10 : decode cX7_office 10 = .ok (.iconst 1, 1) := by decide +kernel
theorem dX7_office_11 : decode cX7_office 11 = .ok (.istore_n 1, 1) := by decide +kernel
theorem dX7_office_12 : decode cX7_office 12 = .ok (.iload_n 1, 1) := by decide +kernel
theorem dX7_office_13 : decode cX7_office 13 = .ok (.ifCond .eq 47, 3) := by decide +kernel
theorem dX7_office_16 : decode cX7_office 16 = .ok (.aload_n 0, 1) := by decide +kernel
theorem dX7_office_17 : decode cX7_office 17 = .ok (.getfield 92, 3) := by decide +kernel
theorem dX7_office_20 : decode cX7_office 20 = .ok (.aload_n 0, 1) := by decide +kernel
theorem dX7_office_21 : decode cX7_office 21 = .ok (.getfield 85, 3) := by decide +kernel
theorem dX7_office_24 : decode cX7_office 24 = .ok (.if_icmp .lt 10, 3) := by decide +kernel
theorem dX7_office_27 : decode cX7_office 27 = .ok (.aload_n 0, 1) := by decide +kernel
theorem dX7_office_28 : decode cX7_office 28 = .ok (.getfield 106, 3) := by decide +kernel
theorem dX7_office_31 : decode cX7_office 31 = .ok (.ifCond .ne 29, 3) := by decide +kernel
theorem dX7_office_34 : decode cX7_office 34 = .ok (.aload_n 0, 1) := by decide +kernel
theorem dX7_office_35 : decode cX7_office 35 = .ok (.invokevirtual 135, 3) := by decide +kernel
theorem dX7_office_38 : decode cX7_office 38 = .ok (.istore_n 1, 1) := by decide +kernel
theorem dX7_office_39 : decode cX7_office 39 = .ok (.aload_n 0, 1) := by decide +kernel
theorem dX7_office_40 : decode cX7_office 40 = .ok (.dup, 1) := by decide +kernel
theorem dX7_office_41 : decode cX7_office 41 = .ok (.getfield 106, 3) := by decide +kernel
theorem dX7_office_44 : decode cX7_office 44 = .ok (.iload_n 1, 1) := by decide +kernel
theorem dX7_office_45 : decode cX7_office 45 = .ok (.ifCond .eq 7, 3) := by decide +kernel
theorem dX7_office_48 : decode cX7_office 48 = .ok (.iconst 1, 1) := by decide +kernel
theorem dX7_office_49 : decode cX7_office 49 = .ok (.goto 4, 3) := by decide +kernel
theorem dX7_office_52 : decode cX7_office 52 = .ok (.iconst 0, 1) := by decide +kernel
theorem dX7_office_53 : decode cX7_office 53 = .ok (.iadd, 1) := by decide +kernel
theorem dX7_office_54 : decode cX7_office 54 = .ok (.putfield 106, 3) := by decide +kernel
theorem dX7_office_57 : decode cX7_office 57 = .ok (.goto (-45), 3) := by decide +kernel
theorem dX7_office_60 : decode cX7_office 60 = .ok (.aload_n 0, 1) := by decide +kernel
theorem dX7_office_61 : decode cX7_office 61 = .ok (.iconst 0, 1) := by decide +kernel
theorem dX7_office_62 : decode cX7_office 62 = .ok (.putfield 85, 3) := by decide +kernel
theorem dX7_office_65 : decode cX7_office 65 = .ok (.iload_n 1, 1) := by decide +kernel
theorem dX7_office_66 : decode cX7_office 66 = .ok (.ifCond .ne 12, 3) := by decide +kernel
theorem dX7_office_69 : decode cX7_office 69 = .ok (.sipush (-1000), 3) := by decide +kernel
theorem dX7_office_72 : decode cX7_office 72 = .ok (.aload_n 0, 1) := by decide +kernel
theorem dX7_office_73 : decode cX7_office 73 = .ok (.getfield 92, 3) := by decide +kernel
theorem dX7_office_76 : decode cX7_office 76 = .ok (.isub, 1) := by decide +kernel
theorem dX7_office_77 : decode cX7_office 77 = .ok (.ireturn, 1) := by decide +kernel
theorem dX7_office_78 : decode cX7_office 78 = .ok (.aload_n 0, 1) := by decide +kernel
theorem dX7_office_79 : decode cX7_office 79 = .ok (.iconst 1, 1) := by decide +kernel
theorem dX7_office_80 : decode cX7_office 80 = .ok (.iconst 1, 1) := by decide +kernel
theorem dX7_office_81 : decode cX7_office 81 = .ok (.invokevirtual 139, 3) := by decide +kernel
theorem dX7_office_84 : decode cX7_office 84 = .ok (.iconst 0, 1) := by decide +kernel
theorem dX7_office_85 : decode cX7_office 85 = .ok (.istore_n 2, 1) := by decide +kernel
theorem dX7_office_86 : decode cX7_office 86 = .ok (.iload_n 2, 1) := by decide +kernel
theorem dX7_office_87 : decode cX7_office 87 = .ok (.aload_n 0, 1) := by decide +kernel
theorem dX7_office_88 : decode cX7_office 88 = .ok (.getfield 106, 3) := by decide +kernel
theorem dX7_office_91 : decode cX7_office 91 = .ok (.if_icmp .ge 37, 3) := by decide +kernel
theorem dX7_office_94 : decode cX7_office 94 = .ok (.aload_n 0, 1) := by decide +kernel
theorem dX7_office_95 : decode cX7_office 95 = .ok (.iload_n 2, 1) := by decide +kernel
theorem dX7_office_96 : decode cX7_office 96 = .ok (.invokevirtual 143, 3) := by decide +kernel
theorem dX7_office_99 : decode cX7_office 99 = .ok (.ifCond .eq 6, 3) := by decide +kernel
theorem dX7_office_102 : decode cX7_office 102 = .ok (.goto 20, 3) := by decide +kernel
theorem dX7_office_105 : decode cX7_office 105 = .ok (.aload_n 0, 1) := by decide +kernel
theorem dX7_office_106 : decode cX7_office 106 = .ok (.iconst 1, 1) := by decide +kernel
theorem dX7_office_107 : decode cX7_office 107 = .ok (.iconst 0, 1) := by decide +kernel
theorem dX7_office_108 : decode cX7_office 108 = .ok (.invokevirtual 139, 3) := by decide +kernel
theorem dX7_office_111 : decode cX7_office 111 = .ok (.sipush (-2000), 3) := by decide +kernel
theorem dX7_office_114 : decode cX7_office 114 = .ok (.aload_n 0, 1) := by decide +kernel
theorem dX7_office_115 : decode cX7_office 115 = .ok (.getfield 61, 3) := by decide +kernel
theorem dX7_office_118 : decode cX7_office 118 = .ok (.iload_n 2, 1) := by decide +kernel
theorem dX7_office_119 : decode cX7_office 119 = .ok (.iaload, 1) := by decide +kernel
theorem dX7_office_120 : decode cX7_office 120 = .ok (.isub, 1) := by decide +kernel
theorem dX7_office_121 : decode cX7_office 121 = .ok (.ireturn, 1) := by decide +kernel
theorem dX7_office_122 : decode cX7_office 122 = .ok (.iinc 2 1, 3) := by decide +kernel
theorem dX7_office_125 : decode cX7_office 125 = .ok (.goto (-39), 3) := by decide +kernel
theorem dX7_office_128 : decode cX7_office 128 = .ok (.aload_n 0, 1) := by decide +kernel
theorem dX7_office_129 : decode cX7_office 129 = .ok (.getfield 106, 3) := by decide +kernel
theorem dX7_office_132 : decode cX7_office 132 = .ok (.ireturn, 1) := by decide +kernel
theorem dX7_passes_0 : decode cX7_passes 0 = .ok (.iconst 0, 1) := by decide +kernel
theorem dX7_passes_1 : decode cX7_passes 1 = .ok (.istore_n 2, 1) := by decide +kernel
theorem dX7_passes_2 : decode cX7_passes 2 = .ok (.iload_n 2, 1) := by decide +kernel
theorem dX7_passes_3 : decode cX7_passes 3 = .ok (.aload_n 1, 1) := by decide +kernel
theorem dX7_passes_4 : decode cX7_passes 4 = .ok (.arraylength, 1) := by decide +kernel
theorem dX7_passes_5 : decode cX7_passes 5 = .ok (.if_icmp .ge 53, 3) := by decide +kernel
theorem dX7_passes_8 : decode cX7_passes 8 = .ok (.aload_n 0, 1) := by decide +kernel
theorem dX7_passes_9 : decode cX7_passes 9 = .ok (.getfield 146, 3) := by decide +kernel
theorem dX7_passes_12 : decode cX7_passes 12 = .ok (.ifCond .eq 18, 3) := by decide +kernel
theorem dX7_passes_15 : decode cX7_passes 15 = .ok (.aload_n 0, 1) := by decide +kernel
theorem dX7_passes_16 : decode cX7_passes 16 = .ok (.getfield 67, 3) := by decide +kernel
theorem dX7_passes_19 : decode cX7_passes 19 = .ok (.aload_n 0, 1) := by decide +kernel
theorem dX7_passes_20 : decode cX7_passes 20 = .ok (.getfield 150, 3) := by decide +kernel
theorem dX7_passes_23 : decode cX7_passes 23 = .ok (.aload_n 1, 1) := by decide +kernel
theorem dX7_passes_24 : decode cX7_passes 24 = .ok (.iload_n 2, 1) := by decide +kernel
theorem dX7_passes_25 : decode cX7_passes 25 = .ok (.iaload, 1) := by decide +kernel
theorem dX7_passes_26 : decode cX7_passes 26 = .ok (.iastore, 1) := by decide +kernel
theorem dX7_passes_27 : decode cX7_passes 27 = .ok (.goto 15, 3) := by decide +kernel
theorem dX7_passes_30 : decode cX7_passes 30 = .ok (.aload_n 1, 1) := by decide +kernel
theorem dX7_passes_31 : decode cX7_passes 31 = .ok (.iload_n 2, 1) := by decide +kernel
theorem dX7_passes_32 : decode cX7_passes 32 = .ok (.aload_n 0, 1) := by decide +kernel
theorem dX7_passes_33 : decode cX7_passes 33 = .ok (.getfield 67, 3) := by decide +kernel
theorem dX7_passes_36 : decode cX7_passes 36 = .ok (.aload_n 0, 1) := by decide +kernel
theorem dX7_passes_37 : decode cX7_passes 37 = .ok (.getfield 150, 3) := by decide +kernel
theorem dX7_passes_40 : decode cX7_passes 40 = .ok (.iaload, 1) := by decide +kernel
theorem dX7_passes_41 : decode cX7_passes 41 = .ok (.iastore, 1) := by decide +kernel
theorem dX7_passes_42 : decode cX7_passes 42 = .ok (.aload_n 0, 1) := by decide +kernel
theorem dX7_passes_43 : decode cX7_passes 43 = .ok (.dup, 1) := by decide +kernel
theorem dX7_passes_44 : decode cX7_passes 44 = .ok (.getfield 150, 3) := by decide +kernel
theorem dX7_passes_47 : decode cX7_passes 47 = .ok (.iconst 1, 1) := by decide +kernel
theorem dX7_passes_48 : decode cX7_passes 48 = .ok (.iadd, 1) := by decide +kernel
theorem dX7_passes_49 : decode cX7_passes 49 = .ok (.putfield 150, 3) := by decide +kernel
theorem dX7_passes_52 : decode cX7_passes 52 = .ok (.iinc 2 1, 3) := by decide +kernel
theorem dX7_passes_55 : decode cX7_passes 55 = .ok (.goto (-53), 3) := by decide +kernel
theorem dX7_passes_58 : decode cX7_passes 58 = .ok (.return_, 1) := by decide +kernel
theorem dX7_passOne_0 : decode cX7_passOne 0 = .ok (.aload_n 0, 1) := by decide +kernel
theorem dX7_passOne_1 : decode cX7_passOne 1 = .ok (.getfield 146, 3) := by decide +kernel
theorem dX7_passOne_4 : decode cX7_passOne 4 = .ok (.ifCond .eq 7, 3) := by decide +kernel
theorem dX7_passOne_7 : decode cX7_passOne 7 = .ok (.iload_n 1, 1) := by decide +kernel
theorem dX7_passOne_8 : decode cX7_passOne 8 = .ok (.goto 12, 3) := by decide +kernel
theorem dX7_passOne_11 : decode cX7_passOne 11 = .ok (.aload_n 0, 1) := by decide +kernel
theorem dX7_passOne_12 : decode cX7_passOne 12 = .ok (.getfield 67, 3) := by decide +kernel
theorem dX7_passOne_15 : decode cX7_passOne 15 = .ok (.aload_n 0, 1) := by decide +kernel
theorem dX7_passOne_16 : decode cX7_passOne 16 = .ok (.getfield 150, 3) := by decide +kernel
theorem dX7_passOne_19 : decode cX7_passOne 19 = .ok (.iaload, 1) := by decide +kernel
theorem dX7_passOne_20 : decode cX7_passOne 20 = .ok (.istore_n 2, 1) := by decide +kernel
theorem dX7_passOne_21 : decode cX7_passOne 21 = .ok (.aload_n 0, 1) := by decide +kernel
theorem dX7_passOne_22 : decode cX7_passOne 22 = .ok (.getfield 146, 3) := by decide +kernel
theorem dX7_passOne_25 : decode cX7_passOne 25 = .ok (.ifCond .eq 13, 3) := by decide +kernel
theorem dX7_passOne_28 : decode cX7_passOne 28 = .ok (.aload_n 0, 1) := by decide +kernel
theorem dX7_passOne_29 : decode cX7_passOne 29 = .ok (.getfield 67, 3) := by decide +kernel
theorem dX7_passOne_32 : decode cX7_passOne 32 = .ok (.aload_n 0, 1) := by decide +kernel
theorem dX7_passOne_33 : decode cX7_passOne 33 = .ok (.getfield 150, 3) := by decide +kernel
theorem dX7_passOne_36 : decode cX7_passOne 36 = .ok (.iload_n 1, 1) := by decide +kernel
theorem dX7_passOne_37 : decode cX7_passOne 37 = .ok (.iastore, 1) := by decide +kernel
theorem dX7_passOne_38 : decode cX7_passOne 38 = .ok (.aload_n 0, 1) := by decide +kernel
theorem dX7_passOne_39 : decode cX7_passOne 39 = .ok (.dup, 1) := by decide +kernel
theorem dX7_passOne_40 : decode cX7_passOne 40 = .ok (.getfield 150, 3) := by decide +kernel
theorem dX7_passOne_43 : decode cX7_passOne 43 = .ok (.iconst 1, 1) := by decide +kernel
theorem dX7_passOne_44 : decode cX7_passOne 44 = .ok (.iadd, 1) := by decide +kernel
theorem dX7_passOne_45 : decode cX7_passOne 45 = .ok (.putfield 150, 3) := by decide +kernel
theorem dX7_passOne_48 : decode cX7_passOne 48 = .ok (.iload_n 2, 1) := by decide +kernel
theorem dX7_passOne_49 : decode cX7_passOne 49 = .ok (.ireturn, 1) := by decide +kernel
theorem dX7_passesAll_0 : decode cX7_passesAll 0 = .ok (.aload_n 0, 1) := by decide +kernel
theorem dX7_passesAll_1 : decode cX7_passesAll 1 = .ok (.bipush 100, 2) := by decide +kernel
theorem dX7_passesAll_3 : decode cX7_passesAll 3 = .ok (.iload_n 1, 1) := by decide +kernel
theorem dX7_passesAll_4 : decode cX7_passesAll 4 = .ok (.imul, 1) := by decide +kernel
theorem dX7_passesAll_5 : decode cX7_passesAll 5 = .ok (.putfield 150, 3) := by decide +kernel
theorem dX7_passesAll_8 : decode cX7_passesAll 8 = .ok (.aload_n 0, 1) := by decide +kernel
theorem dX7_passesAll_9 : decode cX7_passesAll 9 = .ok (.iload_n 2, 1) := by decide +kernel
theorem dX7_passesAll_10 : decode cX7_passesAll 10 = .ok (.putfield 146, 3) := by decide +kernel
theorem dX7_passesAll_13 : decode cX7_passesAll 13 = .ok (.aload_n 0, 1) := by decide +kernel
theorem dX7_passesAll_14 : decode cX7_passesAll 14 = .ok (.aload_n 0, 1) := by decide +kernel
theorem dX7_passesAll_15 : decode cX7_passesAll 15 = .ok (.getfield 13, 3) := by decide +kernel
theorem dX7_passesAll_18 : decode cX7_passesAll 18 = .ok (.invokevirtual 153, 3) := by decide +kernel
theorem dX7_passesAll_21 : decode cX7_passesAll 21 = .ok (.aload_n 0, 1) := by decide +kernel
theorem dX7_passesAll_22 : decode cX7_passesAll 22 = .ok (.aload_n 0, 1) := by decide +kernel
theorem dX7_passesAll_23 : decode cX7_passesAll 23 = .ok (.getfield 16, 3) := by decide +kernel
theorem dX7_passesAll_26 : decode cX7_passesAll 26 = .ok (.invokevirtual 153, 3) := by decide +kernel
theorem dX7_passesAll_29 : decode cX7_passesAll 29 = .ok (.aload_n 0, 1) := by decide +kernel
theorem dX7_passesAll_30 : decode cX7_passesAll 30 = .ok (.aload_n 0, 1) := by decide +kernel
theorem dX7_passesAll_31 : decode cX7_passesAll 31 = .ok (.getfield 19, 3) := by decide +kernel
theorem dX7_passesAll_34 : decode cX7_passesAll 34 = .ok (.invokevirtual 153, 3) := by decide +kernel
theorem dX7_passesAll_37 : decode cX7_passesAll 37 = .ok (.aload_n 0, 1) := by decide +kernel
theorem dX7_passesAll_38 : decode cX7_passesAll 38 = .ok (.aload_n 0, 1) := by decide +kernel
theorem dX7_passesAll_39 : decode cX7_passesAll 39 = .ok (.getfield 22, 3) := by decide +kernel
theorem dX7_passesAll_42 : decode cX7_passesAll 42 = .ok (.invokevirtual 153, 3) := by decide +kernel
theorem dX7_passesAll_45 : decode cX7_passesAll 45 = .ok (.aload_n 0, 1) := by decide +kernel
theorem dX7_passesAll_46 : decode cX7_passesAll 46 = .ok (.aload_n 0, 1) := by decide +kernel
theorem dX7_passesAll_47 : decode cX7_passesAll 47 = .ok (.getfield 25, 3) := by decide +kernel
theorem dX7_passesAll_50 : decode cX7_passesAll 50 = .ok (.invokevirtual 153, 3) := by decide +kernel
theorem dX7_passesAll_53 : decode cX7_passesAll 53 = .ok (.aload_n 0, 1) := by decide +kernel
theorem dX7_passesAll_54 : decode cX7_passesAll 54 = .ok (.aload_n 0, 1) := by decide +kernel
theorem dX7_passesAll_55 : decode cX7_passesAll 55 = .ok (.getfield 28, 3) := by decide +kernel
theorem dX7_passesAll_58 : decode cX7_passesAll 58 = .ok (.invokevirtual 153, 3) := by decide +kernel
theorem dX7_passesAll_61 : decode cX7_passesAll 61 = .ok (.aload_n 0, 1) := by decide +kernel
theorem dX7_passesAll_62 : decode cX7_passesAll 62 = .ok (.aload_n 0, 1) := by decide +kernel
theorem dX7_passesAll_63 : decode cX7_passesAll 63 = .ok (.getfield 31, 3) := by decide +kernel
theorem dX7_passesAll_66 : decode cX7_passesAll 66 = .ok (.invokevirtual 153, 3) := by decide +kernel
theorem dX7_passesAll_69 : decode cX7_passesAll 69 = .ok (.aload_n 0, 1) := by decide +kernel
theorem dX7_passesAll_70 : decode cX7_passesAll 70 = .ok (.aload_n 0, 1) := by decide +kernel
theorem dX7_passesAll_71 : decode cX7_passesAll 71 = .ok (.getfield 34, 3) := by decide +kernel
theorem dX7_passesAll_74 : decode cX7_passesAll 74 = .ok (.invokevirtual 153, 3) := by decide +kernel
theorem dX7_passesAll_77 : decode cX7_passesAll 77 = .ok (.aload_n 0, 1) := by decide +kernel
theorem dX7_passesAll_78 : decode cX7_passesAll 78 = .ok (.aload_n 0, 1) := by decide +kernel
theorem dX7_passesAll_79 : decode cX7_passesAll 79 = .ok (.getfield 37, 3) := by decide +kernel
theorem dX7_passesAll_82 : decode cX7_passesAll 82 = .ok (.invokevirtual 153, 3) := by decide +kernel
theorem dX7_passesAll_85 : decode cX7_passesAll 85 = .ok (.aload_n 0, 1) := by decide +kernel
theorem dX7_passesAll_86 : decode cX7_passesAll 86 = .ok (.aload_n 0, 1) := by decide +kernel
theorem dX7_passesAll_87 : decode cX7_passesAll 87 = .ok (.getfield 40, 3) := by decide +kernel
theorem dX7_passesAll_90 : decode cX7_passesAll 90 = .ok (.invokevirtual 153, 3) := by decide +kernel
theorem dX7_passesAll_93 : decode cX7_passesAll 93 = .ok (.aload_n 0, 1) := by decide +kernel
theorem dX7_passesAll_94 : decode cX7_passesAll 94 = .ok (.aload_n 0, 1) := by decide +kernel
theorem dX7_passesAll_95 : decode cX7_passesAll 95 = .ok (.getfield 43, 3) := by decide +kernel
theorem dX7_passesAll_98 : decode cX7_passesAll 98 = .ok (.invokevirtual 153, 3) := by decide +kernel
theorem dX7_passesAll_101 : decode cX7_passesAll 101 = .ok (.aload_n 0, 1) := by decide +kernel
theorem dX7_passesAll_102 : decode cX7_passesAll 102 = .ok (.aload_n 0, 1) := by decide +kernel
theorem dX7_passesAll_103 : decode cX7_passesAll 103 = .ok (.getfield 46, 3) := by decide +kernel
theorem dX7_passesAll_106 : decode cX7_passesAll 106 = .ok (.invokevirtual 153, 3) := by decide +kernel
theorem dX7_passesAll_109 : decode cX7_passesAll 109 = .ok (.aload_n 0, 1) := by decide +kernel
theorem dX7_passesAll_110 : decode cX7_passesAll 110 = .ok (.aload_n 0, 1) := by decide +kernel
theorem dX7_passesAll_111 : decode cX7_passesAll 111 = .ok (.getfield 49, 3) := by decide +kernel
theorem dX7_passesAll_114 : decode cX7_passesAll 114 = .ok (.invokevirtual 153, 3) := by decide +kernel
theorem dX7_passesAll_117 : decode cX7_passesAll 117 = .ok (.aload_n 0, 1) := by decide +kernel
theorem dX7_passesAll_118 : decode cX7_passesAll 118 = .ok (.aload_n 0, 1) := by decide +kernel
theorem dX7_passesAll_119 : decode cX7_passesAll 119 = .ok (.getfield 52, 3) := by decide +kernel
theorem dX7_passesAll_122 : decode cX7_passesAll 122 = .ok (.invokevirtual 153, 3) := by decide +kernel
theorem dX7_passesAll_125 : decode cX7_passesAll 125 = .ok (.aload_n 0, 1) := by decide +kernel
theorem dX7_passesAll_126 : decode cX7_passesAll 126 = .ok (.aload_n 0, 1) := by decide +kernel
theorem dX7_passesAll_127 : decode cX7_passesAll 127 = .ok (.aload_n 0, 1) := by decide +kernel
theorem dX7_passesAll_128 : decode cX7_passesAll 128 = .ok (.getfield 77, 3) := by decide +kernel
theorem dX7_passesAll_131 : decode cX7_passesAll 131 = .ok (.invokevirtual 157, 3) := by decide +kernel
theorem dX7_passesAll_134 : decode cX7_passesAll 134 = .ok (.putfield 77, 3) := by decide +kernel
theorem dX7_passesAll_137 : decode cX7_passesAll 137 = .ok (.aload_n 0, 1) := by decide +kernel
theorem dX7_passesAll_138 : decode cX7_passesAll 138 = .ok (.aload_n 0, 1) := by decide +kernel
theorem dX7_passesAll_139 : decode cX7_passesAll 139 = .ok (.aload_n 0, 1) := by decide +kernel
theorem dX7_passesAll_140 : decode cX7_passesAll 140 = .ok (.getfield 122, 3) := by decide +kernel
theorem dX7_passesAll_143 : decode cX7_passesAll 143 = .ok (.invokevirtual 157, 3) := by decide +kernel
theorem dX7_passesAll_146 : decode cX7_passesAll 146 = .ok (.putfield 122, 3) := by decide +kernel
theorem dX7_passesAll_149 : decode cX7_passesAll 149 = .ok (.aload_n 0, 1) := by decide +kernel
theorem dX7_passesAll_150 : decode cX7_passesAll 150 = .ok (.aload_n 0, 1) := by decide +kernel
theorem dX7_passesAll_151 : decode cX7_passesAll 151 = .ok (.aload_n 0, 1) := by decide +kernel
theorem dX7_passesAll_152 : decode cX7_passesAll 152 = .ok (.getfield 160, 3) := by decide +kernel
theorem dX7_passesAll_155 : decode cX7_passesAll 155 = .ok (.invokevirtual 157, 3) := by decide +kernel
theorem dX7_passesAll_158 : decode cX7_passesAll 158 = .ok (.putfield 160, 3) := by decide +kernel
theorem dX7_passesAll_161 : decode cX7_passesAll 161 = .ok (.return_, 1) := by decide +kernel
theorem dX7_image_0 : decode cX7_image 0 = .ok (.aload_n 0, 1) := by decide +kernel
theorem dX7_image_1 : decode cX7_image 1 = .ok (.iconst 1, 1) := by decide +kernel
theorem dX7_image_2 : decode cX7_image 2 = .ok (.putfield 163, 3) := by decide +kernel
theorem dX7_image_5 : decode cX7_image 5 = .ok (.aload_n 0, 1) := by decide +kernel
theorem dX7_image_6 : decode cX7_image 6 = .ok (.iconst 0, 1) := by decide +kernel
theorem dX7_image_7 : decode cX7_image 7 = .ok (.iconst 1, 1) := by decide +kernel
theorem dX7_image_8 : decode cX7_image 8 = .ok (.invokevirtual 139, 3) := by decide +kernel
theorem dX7_image_11 : decode cX7_image 11 = .ok (.aload_n 0, 1) := by decide +kernel
theorem dX7_image_12 : decode cX7_image 12 = .ok (.getfield 122, 3) := by decide +kernel
theorem dX7_image_15 : decode cX7_image 15 = .ok (.ireturn, 1) := by decide +kernel
theorem dX7_restore_0 : decode cX7_restore 0 = .ok (.aload_n 0, 1) := by decide +kernel
theorem dX7_restore_1 : decode cX7_restore 1 = .ok (.getfield 163, 3) := by decide +kernel
theorem dX7_restore_4 : decode cX7_restore 4 = .ok (.ifCond .ne 10, 3) := by decide +kernel
theorem dX7_restore_7 : decode cX7_restore 7 = .ok (.aload_n 0, 1) := by decide +kernel
theorem dX7_restore_8 : decode cX7_restore 8 = .ok (.bipush (-3), 2) := by decide +kernel
theorem dX7_restore_10 : decode cX7_restore 10 = .ok (.invokevirtual 88, 3) := by decide +kernel
theorem dX7_restore_13 : decode cX7_restore 13 = .ok (.ireturn, 1) := by decide +kernel
theorem dX7_restore_14 : decode cX7_restore 14 = .ok (.aload_n 0, 1) := by decide +kernel
theorem dX7_restore_15 : decode cX7_restore 15 = .ok (.iconst 0, 1) := by decide +kernel
theorem dX7_restore_16 : decode cX7_restore 16 = .ok (.iconst 0, 1) := by decide +kernel
theorem dX7_restore_17 : decode cX7_restore 17 = .ok (.invokevirtual 139, 3) := by decide +kernel
theorem dX7_restore_20 : decode cX7_restore 20 = .ok (.aload_n 0, 1) := by decide +kernel
theorem dX7_restore_21 : decode cX7_restore 21 = .ok (.getfield 122, 3) := by decide +kernel
theorem dX7_restore_24 : decode cX7_restore 24 = .ok (.ireturn, 1) := by decide +kernel
theorem dX7_wantsInLine_0 : decode cX7_wantsInLine 0 = .ok (.iconst 0, 1) := by decide +kernel
theorem dX7_wantsInLine_1 : decode cX7_wantsInLine 1 = .ok (.istore_n 1, 1) := by decide +kernel
theorem dX7_wantsInLine_2 : decode cX7_wantsInLine 2 = .ok (.iconst 0, 1) := by decide +kernel
theorem dX7_wantsInLine_3 : decode cX7_wantsInLine 3 = .ok (.istore_n 2, 1) := by decide +kernel
theorem dX7_wantsInLine_4 : decode cX7_wantsInLine 4 = .ok (.iload_n 2, 1) := by decide +kernel
theorem dX7_wantsInLine_5 : decode cX7_wantsInLine 5 = .ok (.aload_n 0, 1) := by decide +kernel
theorem dX7_wantsInLine_6 : decode cX7_wantsInLine 6 = .ok (.getfield 160, 3) := by decide +kernel
theorem dX7_wantsInLine_9 : decode cX7_wantsInLine 9 = .ok (.if_icmp .ge 23, 3) := by decide +kernel
theorem dX7_wantsInLine_12 : decode cX7_wantsInLine 12 = .ok (.iload_n 1, 1) := by decide +kernel
theorem dX7_wantsInLine_13 : decode cX7_wantsInLine 13 = .ok (.aload_n 0, 1) := by decide +kernel
theorem dX7_wantsInLine_14 : decode cX7_wantsInLine 14 = .ok (.getfield 25, 3) := by decide +kernel
theorem dX7_wantsInLine_17 : decode cX7_wantsInLine 17 = .ok (.aload_n 0, 1) := by decide +kernel
theorem dX7_wantsInLine_18 : decode cX7_wantsInLine 18 = .ok (.getfield 37, 3) := by decide +kernel
theorem dX7_wantsInLine_21 : decode cX7_wantsInLine 21 = .ok (.iload_n 2, 1) := by decide +kernel
theorem dX7_wantsInLine_22 : decode cX7_wantsInLine 22 = .ok (.iaload, 1) := by decide +kernel
theorem dX7_wantsInLine_23 : decode cX7_wantsInLine 23 = .ok (.iaload, 1) := by decide +kernel
theorem dX7_wantsInLine_24 : decode cX7_wantsInLine 24 = .ok (.iadd, 1) := by decide +kernel
theorem dX7_wantsInLine_25 : decode cX7_wantsInLine 25 = .ok (.istore_n 1, 1) := by decide +kernel
theorem dX7_wantsInLine_26 : decode cX7_wantsInLine 26 = .ok (.iinc 2 1, 3) := by decide +kernel
theorem dX7_wantsInLine_29 : decode cX7_wantsInLine 29 = .ok (.goto (-25), 3) := by decide +kernel
theorem dX7_wantsInLine_32 : decode cX7_wantsInLine 32 = .ok (.iload_n 1, 1) := by decide +kernel
theorem dX7_wantsInLine_33 : decode cX7_wantsInLine 33 = .ok (.ireturn, 1) := by decide +kernel
theorem dX7_wantsSoon_0 : decode cX7_wantsSoon 0 = .ok (.iconst 0, 1) := by decide +kernel
theorem dX7_wantsSoon_1 : decode cX7_wantsSoon 1 = .ok (.istore_n 2, 1) := by decide +kernel
theorem dX7_wantsSoon_2 : decode cX7_wantsSoon 2 = .ok (.iconst 0, 1) := by decide +kernel
theorem dX7_wantsSoon_3 : decode cX7_wantsSoon 3 = .ok (.istore_n 3, 1) := by decide +kernel
theorem dX7_wantsSoon_4 : decode cX7_wantsSoon 4 = .ok (.iload_n 3, 1) := by decide +kernel
theorem dX7_wantsSoon_5 : decode cX7_wantsSoon 5 = .ok (.aload_n 0, 1) := by decide +kernel
theorem dX7_wantsSoon_6 : decode cX7_wantsSoon 6 = .ok (.getfield 77, 3) := by decide +kernel
theorem dX7_wantsSoon_9 : decode cX7_wantsSoon 9 = .ok (.if_icmp .ge 46, 3) := by decide +kernel
theorem dX7_wantsSoon_12 : decode cX7_wantsSoon 12 = .ok (.iload_n 2, 1) := by decide +kernel
theorem dX7_wantsSoon_13 : decode cX7_wantsSoon 13 = .ok (.aload_n 0, 1) := by decide +kernel
theorem dX7_wantsSoon_14 : decode cX7_wantsSoon 14 = .ok (.getfield 31, 3) := by decide +kernel
theorem dX7_wantsSoon_17 : decode cX7_wantsSoon 17 = .ok (.iload_n 3, 1) := by decide +kernel
theorem dX7_wantsSoon_18 : decode cX7_wantsSoon 18 = .ok (.iaload, 1) := by decide +kernel
theorem dX7_wantsSoon_19 : decode cX7_wantsSoon 19 = .ok (.ifCond .ne 27, 3) := by decide +kernel
theorem dX7_wantsSoon_22 : decode cX7_wantsSoon 22 = .ok (.aload_n 0, 1) := by decide +kernel
theorem dX7_wantsSoon_23 : decode cX7_wantsSoon 23 = .ok (.getfield 22, 3) := by decide +kernel
theorem dX7_wantsSoon_26 : decode cX7_wantsSoon 26 = .ok (.iload_n 3, 1) := by decide +kernel
theorem dX7_wantsSoon_27 : decode cX7_wantsSoon 27 = .ok (.iaload, 1) := by decide +kernel
theorem dX7_wantsSoon_28 : decode cX7_wantsSoon 28 = .ok (.aload_n 0, 1) := by decide +kernel
theorem dX7_wantsSoon_29 : decode cX7_wantsSoon 29 = .ok (.getfield 122, 3) := by decide +kernel
theorem dX7_wantsSoon_32 : decode cX7_wantsSoon 32 = .ok (.iload_n 1, 1) := by decide +kernel
theorem dX7_wantsSoon_33 : decode cX7_wantsSoon 33 = .ok (.iadd, 1) := by decide +kernel
theorem dX7_wantsSoon_34 : decode cX7_wantsSoon 34 = .ok (.if_icmp .gt 12, 3) := by decide +kernel
theorem dX7_wantsSoon_37 : decode cX7_wantsSoon 37 = .ok (.aload_n 0, 1) := by decide +kernel
theorem dX7_wantsSoon_38 : decode cX7_wantsSoon 38 = .ok (.getfield 25, 3) := by decide +kernel
theorem dX7_wantsSoon_41 : decode cX7_wantsSoon 41 = .ok (.iload_n 3, 1) := by decide +kernel
theorem dX7_wantsSoon_42 : decode cX7_wantsSoon 42 = .ok (.iaload, 1) := by decide +kernel
theorem dX7_wantsSoon_43 : decode cX7_wantsSoon 43 = .ok (.goto 4, 3) := by decide +kernel
theorem dX7_wantsSoon_46 : decode cX7_wantsSoon 46 = .ok (.iconst 0, 1) := by decide +kernel
theorem dX7_wantsSoon_47 : decode cX7_wantsSoon 47 = .ok (.iadd, 1) := by decide +kernel
theorem dX7_wantsSoon_48 : decode cX7_wantsSoon 48 = .ok (.istore_n 2, 1) := by decide +kernel
theorem dX7_wantsSoon_49 : decode cX7_wantsSoon 49 = .ok (.iinc 3 1, 3) := by decide +kernel
theorem dX7_wantsSoon_52 : decode cX7_wantsSoon 52 = .ok (.goto (-48), 3) := by decide +kernel
theorem dX7_wantsSoon_55 : decode cX7_wantsSoon 55 = .ok (.iload_n 2, 1) := by decide +kernel
theorem dX7_wantsSoon_56 : decode cX7_wantsSoon 56 = .ok (.ireturn, 1) := by decide +kernel
theorem dX7_cupsBy_0 : decode cX7_cupsBy 0 = .ok (.iload_n 2, 1) := by decide +kernel
theorem dX7_cupsBy_1 : decode cX7_cupsBy 1 = .ok (.tableswitch 95 0 6 #[43, 95, 52, 59, 64, 80, 88], 43) := by decide +kernel
theorem dX7_cupsBy_44 : decode cX7_cupsBy 44 = .ok (.aload_n 0, 1) := by decide +kernel
theorem dX7_cupsBy_45 : decode cX7_cupsBy 45 = .ok (.getfield 25, 3) := by decide +kernel
theorem dX7_cupsBy_48 : decode cX7_cupsBy 48 = .ok (.iload_n 1, 1) := by decide +kernel
theorem dX7_cupsBy_49 : decode cX7_cupsBy 49 = .ok (.iaload, 1) := by decide +kernel
theorem dX7_cupsBy_50 : decode cX7_cupsBy 50 = .ok (.iconst 1, 1) := by decide +kernel
theorem dX7_cupsBy_51 : decode cX7_cupsBy 51 = .ok (.iadd, 1) := by decide +kernel
theorem dX7_cupsBy_52 : decode cX7_cupsBy 52 = .ok (.ireturn, 1) := by decide +kernel
theorem dX7_cupsBy_53 : decode cX7_cupsBy 53 = .ok (.aload_n 0, 1) := by decide +kernel
theorem dX7_cupsBy_54 : decode cX7_cupsBy 54 = .ok (.getfield 13, 3) := by decide +kernel
theorem dX7_cupsBy_57 : decode cX7_cupsBy 57 = .ok (.iconst 0, 1) := by decide +kernel
theorem dX7_cupsBy_58 : decode cX7_cupsBy 58 = .ok (.iaload, 1) := by decide +kernel
theorem dX7_cupsBy_59 : decode cX7_cupsBy 59 = .ok (.ireturn, 1) := by decide +kernel
theorem dX7_cupsBy_60 : decode cX7_cupsBy 60 = .ok (.aload_n 0, 1) := by decide +kernel
theorem dX7_cupsBy_61 : decode cX7_cupsBy 61 = .ok (.invokevirtual 166, 3) := by decide +kernel
theorem dX7_cupsBy_64 : decode cX7_cupsBy 64 = .ok (.ireturn, 1) := by decide +kernel
theorem dX7_cupsBy_65 : decode cX7_cupsBy 65 = .ok (.aload_n 0, 1) := by decide +kernel
theorem dX7_cupsBy_66 : decode cX7_cupsBy 66 = .ok (.invokevirtual 166, 3) := by decide +kernel
theorem dX7_cupsBy_69 : decode cX7_cupsBy 69 = .ok (.aload_n 0, 1) := by decide +kernel
theorem dX7_cupsBy_70 : decode cX7_cupsBy 70 = .ok (.aload_n 0, 1) := by decide +kernel
theorem dX7_cupsBy_71 : decode cX7_cupsBy 71 = .ok (.getfield 19, 3) := by decide +kernel
theorem dX7_cupsBy_74 : decode cX7_cupsBy 74 = .ok (.iload_n 1, 1) := by decide +kernel
theorem dX7_cupsBy_75 : decode cX7_cupsBy 75 = .ok (.iaload, 1) := by decide +kernel
theorem dX7_cupsBy_76 : decode cX7_cupsBy 76 = .ok (.invokevirtual 169, 3) := by decide +kernel
theorem dX7_cupsBy_79 : decode cX7_cupsBy 79 = .ok (.iadd, 1) := by decide +kernel
theorem dX7_cupsBy_80 : decode cX7_cupsBy 80 = .ok (.ireturn, 1) := by decide +kernel
theorem dX7_cupsBy_81 : decode cX7_cupsBy 81 = .ok (.aload_n 0, 1) := by decide +kernel
theorem dX7_cupsBy_82 : decode cX7_cupsBy 82 = .ok (.getfield 13, 3) := by decide +kernel
theorem dX7_cupsBy_85 : decode cX7_cupsBy 85 = .ok (.bipush 6, 2) := by decide +kernel
theorem dX7_cupsBy_87 : decode cX7_cupsBy 87 = .ok (.iaload, 1) := by decide +kernel
theorem dX7_cupsBy_88 : decode cX7_cupsBy 88 = .ok (.ireturn, 1) := by decide +kernel
theorem dX7_cupsBy_89 : decode cX7_cupsBy 89 = .ok (.aload_n 0, 1) := by decide +kernel
theorem dX7_cupsBy_90 : decode cX7_cupsBy 90 = .ok (.getfield 19, 3) := by decide +kernel
theorem dX7_cupsBy_93 : decode cX7_cupsBy 93 = .ok (.iload_n 1, 1) := by decide +kernel
theorem dX7_cupsBy_94 : decode cX7_cupsBy 94 = .ok (.iaload, 1) := by decide +kernel
theorem dX7_cupsBy_95 : decode cX7_cupsBy 95 = .ok (.ireturn, 1) := by decide +kernel
theorem dX7_cupsBy_96 : decode cX7_cupsBy 96 = .ok (.aload_n 0, 1) := by decide +kernel
theorem dX7_cupsBy_97 : decode cX7_cupsBy 97 = .ok (.getfield 25, 3) := by decide +kernel
theorem dX7_cupsBy_100 : decode cX7_cupsBy 100 = .ok (.iload_n 1, 1) := by decide +kernel
theorem dX7_cupsBy_101 : decode cX7_cupsBy 101 = .ok (.iaload, 1) := by decide +kernel
theorem dX7_cupsBy_102 : decode cX7_cupsBy 102 = .ok (.ireturn, 1) := by decide +kernel
theorem dX7_upTo_0 : decode cX7_upTo 0 = .ok (.aload_n 0, 1) := by decide +kernel
theorem dX7_upTo_1 : decode cX7_upTo 1 = .ok (.iload_n 1, 1) := by decide +kernel
theorem dX7_upTo_2 : decode cX7_upTo 2 = .ok (.iload_n 2, 1) := by decide +kernel
theorem dX7_upTo_3 : decode cX7_upTo 3 = .ok (.invokevirtual 172, 3) := by decide +kernel
theorem dX7_upTo_6 : decode cX7_upTo 6 = .ok (.istore_n 3, 1) := by decide +kernel
theorem dX7_upTo_7 : decode cX7_upTo 7 = .ok (.iload_n 3, 1) := by decide +kernel
theorem dX7_upTo_8 : decode cX7_upTo 8 = .ok (.aload_n 0, 1) := by decide +kernel
theorem dX7_upTo_9 : decode cX7_upTo 9 = .ok (.getfield 25, 3) := by decide +kernel
theorem dX7_upTo_12 : decode cX7_upTo 12 = .ok (.iload_n 1, 1) := by decide +kernel
theorem dX7_upTo_13 : decode cX7_upTo 13 = .ok (.iaload, 1) := by decide +kernel
theorem dX7_upTo_14 : decode cX7_upTo 14 = .ok (.if_icmp .ge 12, 3) := by decide +kernel
theorem dX7_upTo_17 : decode cX7_upTo 17 = .ok (.aload_n 0, 1) := by decide +kernel
theorem dX7_upTo_18 : decode cX7_upTo 18 = .ok (.getfield 25, 3) := by decide +kernel
theorem dX7_upTo_21 : decode cX7_upTo 21 = .ok (.iload_n 1, 1) := by decide +kernel
theorem dX7_upTo_22 : decode cX7_upTo 22 = .ok (.iaload, 1) := by decide +kernel
theorem dX7_upTo_23 : decode cX7_upTo 23 = .ok (.goto 4, 3) := by decide +kernel
theorem dX7_upTo_26 : decode cX7_upTo 26 = .ok (.iload_n 3, 1) := by decide +kernel
theorem dX7_upTo_27 : decode cX7_upTo 27 = .ok (.istore_n 3, 1) := by decide +kernel
theorem dX7_upTo_28 : decode cX7_upTo 28 = .ok (.iload_n 3, 1) := by decide +kernel
theorem dX7_upTo_29 : decode cX7_upTo 29 = .ok (.aload_n 0, 1) := by decide +kernel
theorem dX7_upTo_30 : decode cX7_upTo 30 = .ok (.getfield 13, 3) := by decide +kernel
theorem dX7_upTo_33 : decode cX7_upTo 33 = .ok (.iconst 0, 1) := by decide +kernel
theorem dX7_upTo_34 : decode cX7_upTo 34 = .ok (.iaload, 1) := by decide +kernel
theorem dX7_upTo_35 : decode cX7_upTo 35 = .ok (.if_icmp .le 12, 3) := by decide +kernel
theorem dX7_upTo_38 : decode cX7_upTo 38 = .ok (.aload_n 0, 1) := by decide +kernel
theorem dX7_upTo_39 : decode cX7_upTo 39 = .ok (.getfield 13, 3) := by decide +kernel
theorem dX7_upTo_42 : decode cX7_upTo 42 = .ok (.iconst 0, 1) := by decide +kernel
theorem dX7_upTo_43 : decode cX7_upTo 43 = .ok (.iaload, 1) := by decide +kernel
theorem dX7_upTo_44 : decode cX7_upTo 44 = .ok (.goto 4, 3) := by decide +kernel
theorem dX7_upTo_47 : decode cX7_upTo 47 = .ok (.iload_n 3, 1) := by decide +kernel
theorem dX7_upTo_48 : decode cX7_upTo 48 = .ok (.ireturn, 1) := by decide +kernel
theorem dX7_isFree_0 : decode cX7_isFree 0 = .ok (.aload_n 0, 1) := by decide +kernel
theorem dX7_isFree_1 : decode cX7_isFree 1 = .ok (.getfield 49, 3) := by decide +kernel
theorem dX7_isFree_4 : decode cX7_isFree 4 = .ok (.iload_n 1, 1) := by decide +kernel
theorem dX7_isFree_5 : decode cX7_isFree 5 = .ok (.iaload, 1) := by decide +kernel
theorem dX7_isFree_6 : decode cX7_isFree 6 = .ok (.aload_n 0, 1) := by decide +kernel
theorem dX7_isFree_7 : decode cX7_isFree 7 = .ok (.getfield 122, 3) := by decide +kernel
theorem dX7_isFree_10 : decode cX7_isFree 10 = .ok (.if_icmp .gt 7, 3) := by decide +kernel
theorem dX7_isFree_13 : decode cX7_isFree 13 = .ok (.iconst 1, 1) := by decide +kernel
theorem dX7_isFree_14 : decode cX7_isFree 14 = .ok (.goto 4, 3) := by decide +kernel
theorem dX7_isFree_17 : decode cX7_isFree 17 = .ok (.iconst 0, 1) := by decide +kernel
theorem dX7_isFree_18 : decode cX7_isFree 18 = .ok (.ireturn, 1) := by decide +kernel
theorem dX7_boilTime_0 : decode cX7_boilTime 0 = .ok (.iload_n 1, 1) := by decide +kernel
theorem dX7_boilTime_1 : decode cX7_boilTime 1 = .ok (.iload_n 2, 1) := by decide +kernel
theorem dX7_boilTime_2 : decode cX7_boilTime 2 = .ok (.imul, 1) := by decide +kernel
theorem dX7_boilTime_3 : decode cX7_boilTime 3 = .ok (.aload_n 0, 1) := by decide +kernel
theorem dX7_boilTime_4 : decode cX7_boilTime 4 = .ok (.getfield 13, 3) := by decide +kernel
theorem dX7_boilTime_7 : decode cX7_boilTime 7 = .ok (.iconst 2, 1) := by decide +kernel
theorem dX7_boilTime_8 : decode cX7_boilTime 8 = .ok (.iaload, 1) := by decide +kernel
theorem dX7_boilTime_9 : decode cX7_boilTime 9 = .ok (.imul, 1) := by decide +kernel
theorem dX7_boilTime_10 : decode cX7_boilTime 10 = .ok (.bipush 99, 2) := by decide +kernel
theorem dX7_boilTime_12 : decode cX7_boilTime 12 = .ok (.iadd, 1) := by decide +kernel
theorem dX7_boilTime_13 : decode cX7_boilTime 13 = .ok (.bipush 100, 2) := by decide +kernel
theorem dX7_boilTime_15 : decode cX7_boilTime 15 = .ok (.idiv, 1) := by decide +kernel
theorem dX7_boilTime_16 : decode cX7_boilTime 16 = .ok (.istore_n 3, 1) := by decide +kernel
theorem dX7_boilTime_17 : decode cX7_boilTime 17 = .ok (.iload_n 3, 1) := by decide +kernel
theorem dX7_boilTime_18 : decode cX7_boilTime 18 = .ok (.iconst 1, 1) := by decide +kernel
theorem dX7_boilTime_19 : decode cX7_boilTime 19 = .ok (.if_icmp .ge 7, 3) := by decide +kernel
theorem dX7_boilTime_22 : decode cX7_boilTime 22 = .ok (.iconst 1, 1) := by decide +kernel
theorem dX7_boilTime_23 : decode cX7_boilTime 23 = .ok (.goto 4, 3) := by decide +kernel
theorem dX7_boilTime_26 : decode cX7_boilTime 26 = .ok (.iload_n 3, 1) := by decide +kernel
theorem dX7_boilTime_27 : decode cX7_boilTime 27 = .ok (.ireturn, 1) := by decide +kernel
theorem dX7_putsOn_0 : decode cX7_putsOn 0 = .ok (.aload_n 0, 1) := by decide +kernel
theorem dX7_putsOn_1 : decode cX7_putsOn 1 = .ok (.iload_n 1, 1) := by decide +kernel
theorem dX7_putsOn_2 : decode cX7_putsOn 2 = .ok (.aload_n 0, 1) := by decide +kernel
theorem dX7_putsOn_3 : decode cX7_putsOn 3 = .ok (.getfield 16, 3) := by decide +kernel
theorem dX7_putsOn_6 : decode cX7_putsOn 6 = .ok (.iload_n 1, 1) := by decide +kernel
theorem dX7_putsOn_7 : decode cX7_putsOn 7 = .ok (.iaload, 1) := by decide +kernel
theorem dX7_putsOn_8 : decode cX7_putsOn 8 = .ok (.invokevirtual 175, 3) := by decide +kernel
theorem dX7_putsOn_11 : decode cX7_putsOn 11 = .ok (.istore_n 3, 1) := by decide +kernel
theorem dX7_putsOn_12 : decode cX7_putsOn 12 = .ok (.iconst 0, 1) := by decide +kernel
theorem dX7_putsOn_13 : decode cX7_putsOn 13 = .ok (.istore 4, 2) := by decide +kernel
theorem dX7_putsOn_15 : decode cX7_putsOn 15 = .ok (.aload_n 0, 1) := by decide +kernel
theorem dX7_putsOn_16 : decode cX7_putsOn 16 = .ok (.getfield 40, 3) := by decide +kernel
theorem dX7_putsOn_19 : decode cX7_putsOn 19 = .ok (.iload_n 2, 1) := by decide +kernel
theorem dX7_putsOn_20 : decode cX7_putsOn 20 = .ok (.iaload, 1) := by decide +kernel
theorem dX7_putsOn_21 : decode cX7_putsOn 21 = .ok (.iload_n 3, 1) := by decide +kernel
theorem dX7_putsOn_22 : decode cX7_putsOn 22 = .ok (.if_icmp .ge 39, 3) := by decide +kernel
theorem dX7_putsOn_25 : decode cX7_putsOn 25 = .ok (.aload_n 0, 1) := by decide +kernel
theorem dX7_putsOn_26 : decode cX7_putsOn 26 = .ok (.getfield 43, 3) := by decide +kernel
theorem dX7_putsOn_29 : decode cX7_putsOn 29 = .ok (.iload_n 2, 1) := by decide +kernel
theorem dX7_putsOn_30 : decode cX7_putsOn 30 = .ok (.aload_n 0, 1) := by decide +kernel
theorem dX7_putsOn_31 : decode cX7_putsOn 31 = .ok (.getfield 40, 3) := by decide +kernel
theorem dX7_putsOn_34 : decode cX7_putsOn 34 = .ok (.iload_n 2, 1) := by decide +kernel
theorem dX7_putsOn_35 : decode cX7_putsOn 35 = .ok (.iaload, 1) := by decide +kernel
theorem dX7_putsOn_36 : decode cX7_putsOn 36 = .ok (.aload_n 0, 1) := by decide +kernel
theorem dX7_putsOn_37 : decode cX7_putsOn 37 = .ok (.getfield 43, 3) := by decide +kernel
theorem dX7_putsOn_40 : decode cX7_putsOn 40 = .ok (.iload_n 2, 1) := by decide +kernel
theorem dX7_putsOn_41 : decode cX7_putsOn 41 = .ok (.iaload, 1) := by decide +kernel
theorem dX7_putsOn_42 : decode cX7_putsOn 42 = .ok (.imul, 1) := by decide +kernel
theorem dX7_putsOn_43 : decode cX7_putsOn 43 = .ok (.iload_n 3, 1) := by decide +kernel
theorem dX7_putsOn_44 : decode cX7_putsOn 44 = .ok (.idiv, 1) := by decide +kernel
theorem dX7_putsOn_45 : decode cX7_putsOn 45 = .ok (.iastore, 1) := by decide +kernel
theorem dX7_putsOn_46 : decode cX7_putsOn 46 = .ok (.aload_n 0, 1) := by decide +kernel
theorem dX7_putsOn_47 : decode cX7_putsOn 47 = .ok (.getfield 40, 3) := by decide +kernel
theorem dX7_putsOn_50 : decode cX7_putsOn 50 = .ok (.iload_n 2, 1) := by decide +kernel
theorem dX7_putsOn_51 : decode cX7_putsOn 51 = .ok (.iload_n 3, 1) := by decide +kernel
theorem dX7_putsOn_52 : decode cX7_putsOn 52 = .ok (.iastore, 1) := by decide +kernel
theorem dX7_putsOn_53 : decode cX7_putsOn 53 = .ok (.aload_n 0, 1) := by decide +kernel
theorem dX7_putsOn_54 : decode cX7_putsOn 54 = .ok (.getfield 13, 3) := by decide +kernel
theorem dX7_putsOn_57 : decode cX7_putsOn 57 = .ok (.iconst 1, 1) := by decide +kernel
theorem dX7_putsOn_58 : decode cX7_putsOn 58 = .ok (.iaload, 1) := by decide +kernel
theorem dX7_putsOn_59 : decode cX7_putsOn 59 = .ok (.istore 4, 2) := by decide +kernel
theorem dX7_putsOn_61 : decode cX7_putsOn 61 = .ok (.aload_n 0, 1) := by decide +kernel
theorem dX7_putsOn_62 : decode cX7_putsOn 62 = .ok (.getfield 49, 3) := by decide +kernel
theorem dX7_putsOn_65 : decode cX7_putsOn 65 = .ok (.iload_n 2, 1) := by decide +kernel
theorem dX7_putsOn_66 : decode cX7_putsOn 66 = .ok (.aload_n 0, 1) := by decide +kernel
theorem dX7_putsOn_67 : decode cX7_putsOn 67 = .ok (.getfield 122, 3) := by decide +kernel
theorem dX7_putsOn_70 : decode cX7_putsOn 70 = .ok (.iload 4, 2) := by decide +kernel
theorem dX7_putsOn_72 : decode cX7_putsOn 72 = .ok (.iadd, 1) := by decide +kernel
theorem dX7_putsOn_73 : decode cX7_putsOn 73 = .ok (.aload_n 0, 1) := by decide +kernel
theorem dX7_putsOn_74 : decode cX7_putsOn 74 = .ok (.aload_n 0, 1) := by decide +kernel
theorem dX7_putsOn_75 : decode cX7_putsOn 75 = .ok (.getfield 40, 3) := by decide +kernel
theorem dX7_putsOn_78 : decode cX7_putsOn 78 = .ok (.iload_n 2, 1) := by decide +kernel
theorem dX7_putsOn_79 : decode cX7_putsOn 79 = .ok (.iaload, 1) := by decide +kernel
theorem dX7_putsOn_80 : decode cX7_putsOn 80 = .ok (.bipush 10, 2) := by decide +kernel
theorem dX7_putsOn_82 : decode cX7_putsOn 82 = .ok (.aload_n 0, 1) := by decide +kernel
theorem dX7_putsOn_83 : decode cX7_putsOn 83 = .ok (.getfield 43, 3) := by decide +kernel
theorem dX7_putsOn_86 : decode cX7_putsOn 86 = .ok (.iload_n 2, 1) := by decide +kernel
theorem dX7_putsOn_87 : decode cX7_putsOn 87 = .ok (.iaload, 1) := by decide +kernel
theorem dX7_putsOn_88 : decode cX7_putsOn 88 = .ok (.isub, 1) := by decide +kernel
theorem dX7_putsOn_89 : decode cX7_putsOn 89 = .ok (.invokevirtual 178, 3) := by decide +kernel
theorem dX7_putsOn_92 : decode cX7_putsOn 92 = .ok (.iadd, 1) := by decide +kernel
theorem dX7_putsOn_93 : decode cX7_putsOn 93 = .ok (.iastore, 1) := by decide +kernel
theorem dX7_putsOn_94 : decode cX7_putsOn 94 = .ok (.aload_n 0, 1) := by decide +kernel
theorem dX7_putsOn_95 : decode cX7_putsOn 95 = .ok (.getfield 43, 3) := by decide +kernel
theorem dX7_putsOn_98 : decode cX7_putsOn 98 = .ok (.iload_n 2, 1) := by decide +kernel
theorem dX7_putsOn_99 : decode cX7_putsOn 99 = .ok (.bipush 10, 2) := by decide +kernel
theorem dX7_putsOn_101 : decode cX7_putsOn 101 = .ok (.iastore, 1) := by decide +kernel
theorem dX7_putsOn_102 : decode cX7_putsOn 102 = .ok (.aload_n 0, 1) := by decide +kernel
theorem dX7_putsOn_103 : decode cX7_putsOn 103 = .ok (.getfield 46, 3) := by decide +kernel
theorem dX7_putsOn_106 : decode cX7_putsOn 106 = .ok (.iload_n 2, 1) := by decide +kernel
theorem dX7_putsOn_107 : decode cX7_putsOn 107 = .ok (.iconst 0, 1) := by decide +kernel
theorem dX7_putsOn_108 : decode cX7_putsOn 108 = .ok (.iastore, 1) := by decide +kernel
theorem dX7_putsOn_109 : decode cX7_putsOn 109 = .ok (.aload_n 0, 1) := by decide +kernel
theorem dX7_putsOn_110 : decode cX7_putsOn 110 = .ok (.getfield 52, 3) := by decide +kernel
theorem dX7_putsOn_113 : decode cX7_putsOn 113 = .ok (.iload_n 2, 1) := by decide +kernel
theorem dX7_putsOn_114 : decode cX7_putsOn 114 = .ok (.iload_n 1, 1) := by decide +kernel
theorem dX7_putsOn_115 : decode cX7_putsOn 115 = .ok (.iastore, 1) := by decide +kernel
theorem dX7_putsOn_116 : decode cX7_putsOn 116 = .ok (.aload_n 0, 1) := by decide +kernel
theorem dX7_putsOn_117 : decode cX7_putsOn 117 = .ok (.dup, 1) := by decide +kernel
theorem dX7_putsOn_118 : decode cX7_putsOn 118 = .ok (.getfield 181, 3) := by decide +kernel
theorem dX7_putsOn_121 : decode cX7_putsOn 121 = .ok (.iconst 1, 1) := by decide +kernel
theorem dX7_putsOn_122 : decode cX7_putsOn 122 = .ok (.iadd, 1) := by decide +kernel
theorem dX7_putsOn_123 : decode cX7_putsOn 123 = .ok (.putfield 181, 3) := by decide +kernel
theorem dX7_putsOn_126 : decode cX7_putsOn 126 = .ok (.return_, 1) := by decide +kernel
theorem dX7_hotFor_0 : decode cX7_hotFor 0 = .ok (.iconst 0, 1) := by decide +kernel
theorem dX7_hotFor_1 : decode cX7_hotFor 1 = .ok (.istore_n 2, 1) := by decide +kernel
theorem dX7_hotFor_2 : decode cX7_hotFor 2 = .ok (.iload_n 2, 1) := by decide +kernel
theorem dX7_hotFor_3 : decode cX7_hotFor 3 = .ok (.aload_n 0, 1) := by decide +kernel
theorem dX7_hotFor_4 : decode cX7_hotFor 4 = .ok (.getfield 13, 3) := by decide +kernel
theorem dX7_hotFor_7 : decode cX7_hotFor 7 = .ok (.bipush 7, 2) := by decide +kernel
theorem dX7_hotFor_9 : decode cX7_hotFor 9 = .ok (.iaload, 1) := by decide +kernel
theorem dX7_hotFor_10 : decode cX7_hotFor 10 = .ok (.if_icmp .ge 45, 3) := by decide +kernel
theorem dX7_hotFor_13 : decode cX7_hotFor 13 = .ok (.aload_n 0, 1) := by decide +kernel
theorem dX7_hotFor_14 : decode cX7_hotFor 14 = .ok (.iload_n 2, 1) := by decide +kernel
theorem dX7_hotFor_15 : decode cX7_hotFor 15 = .ok (.invokevirtual 184, 3) := by decide +kernel
theorem dX7_hotFor_18 : decode cX7_hotFor 18 = .ok (.ifCond .eq 31, 3) := by decide +kernel
theorem dX7_hotFor_21 : decode cX7_hotFor 21 = .ok (.aload_n 0, 1) := by decide +kernel
theorem dX7_hotFor_22 : decode cX7_hotFor 22 = .ok (.getfield 43, 3) := by decide +kernel
theorem dX7_hotFor_25 : decode cX7_hotFor 25 = .ok (.iload_n 2, 1) := by decide +kernel
theorem dX7_hotFor_26 : decode cX7_hotFor 26 = .ok (.iaload, 1) := by decide +kernel
theorem dX7_hotFor_27 : decode cX7_hotFor 27 = .ok (.bipush 8, 2) := by decide +kernel
theorem dX7_hotFor_29 : decode cX7_hotFor 29 = .ok (.if_icmp .lt 20, 3) := by decide +kernel
theorem dX7_hotFor_32 : decode cX7_hotFor 32 = .ok (.aload_n 0, 1) := by decide +kernel
theorem dX7_hotFor_33 : decode cX7_hotFor 33 = .ok (.getfield 40, 3) := by decide +kernel
theorem dX7_hotFor_36 : decode cX7_hotFor 36 = .ok (.iload_n 2, 1) := by decide +kernel
theorem dX7_hotFor_37 : decode cX7_hotFor 37 = .ok (.iaload, 1) := by decide +kernel
theorem dX7_hotFor_38 : decode cX7_hotFor 38 = .ok (.aload_n 0, 1) := by decide +kernel
theorem dX7_hotFor_39 : decode cX7_hotFor 39 = .ok (.getfield 25, 3) := by decide +kernel
theorem dX7_hotFor_42 : decode cX7_hotFor 42 = .ok (.iload_n 1, 1) := by decide +kernel
theorem dX7_hotFor_43 : decode cX7_hotFor 43 = .ok (.iaload, 1) := by decide +kernel
theorem dX7_hotFor_44 : decode cX7_hotFor 44 = .ok (.if_icmp .lt 5, 3) := by decide +kernel
theorem dX7_hotFor_47 : decode cX7_hotFor 47 = .ok (.iload_n 2, 1) := by decide +kernel
theorem dX7_hotFor_48 : decode cX7_hotFor 48 = .ok (.ireturn, 1) := by decide +kernel
theorem dX7_hotFor_49 : decode cX7_hotFor 49 = .ok (.iinc 2 1, 3) := by decide +kernel
theorem dX7_hotFor_52 : decode cX7_hotFor 52 = .ok (.goto (-50), 3) := by decide +kernel
theorem dX7_hotFor_55 : decode cX7_hotFor 55 = .ok (.bipush (-9), 2) := by decide +kernel
theorem dX7_hotFor_57 : decode cX7_hotFor 57 = .ok (.ireturn, 1) := by decide +kernel
theorem dX7_freeFor_0 : decode cX7_freeFor 0 = .ok (.bipush (-9), 2) := by decide +kernel
theorem dX7_freeFor_2 : decode cX7_freeFor 2 = .ok (.istore_n 2, 1) := by decide +kernel
theorem dX7_freeFor_3 : decode cX7_freeFor 3 = .ok (.iconst 0, 1) := by decide +kernel
theorem dX7_freeFor_4 : decode cX7_freeFor 4 = .ok (.istore_n 3, 1) := by decide +kernel
theorem dX7_freeFor_5 : decode cX7_freeFor 5 = .ok (.iload_n 3, 1) := by decide +kernel
theorem dX7_freeFor_6 : decode cX7_freeFor 6 = .ok (.aload_n 0, 1) := by decide +kernel
theorem dX7_freeFor_7 : decode cX7_freeFor 7 = .ok (.getfield 13, 3) := by decide +kernel
theorem dX7_freeFor_10 : decode cX7_freeFor 10 = .ok (.bipush 7, 2) := by decide +kernel
theorem dX7_freeFor_12 : decode cX7_freeFor 12 = .ok (.iaload, 1) := by decide +kernel
theorem dX7_freeFor_13 : decode cX7_freeFor 13 = .ok (.if_icmp .ge 44, 3) := by decide +kernel
theorem dX7_freeFor_16 : decode cX7_freeFor 16 = .ok (.aload_n 0, 1) := by decide +kernel
theorem dX7_freeFor_17 : decode cX7_freeFor 17 = .ok (.iload_n 3, 1) := by decide +kernel
theorem dX7_freeFor_18 : decode cX7_freeFor 18 = .ok (.invokevirtual 184, 3) := by decide +kernel
theorem dX7_freeFor_21 : decode cX7_freeFor 21 = .ok (.ifCond .ne 16, 3) := by decide +kernel
theorem dX7_freeFor_24 : decode cX7_freeFor 24 = .ok (.aload_n 0, 1) := by decide +kernel
theorem dX7_freeFor_25 : decode cX7_freeFor 25 = .ok (.getfield 52, 3) := by decide +kernel
theorem dX7_freeFor_28 : decode cX7_freeFor 28 = .ok (.iload_n 3, 1) := by decide +kernel
theorem dX7_freeFor_29 : decode cX7_freeFor 29 = .ok (.iaload, 1) := by decide +kernel
theorem dX7_freeFor_30 : decode cX7_freeFor 30 = .ok (.iload_n 1, 1) := by decide +kernel
theorem dX7_freeFor_31 : decode cX7_freeFor 31 = .ok (.if_icmp .ne 6, 3) := by decide +kernel
theorem dX7_freeFor_34 : decode cX7_freeFor 34 = .ok (.bipush (-9), 2) := by decide +kernel
theorem dX7_freeFor_36 : decode cX7_freeFor 36 = .ok (.ireturn, 1) := by decide +kernel
theorem dX7_freeFor_37 : decode cX7_freeFor 37 = .ok (.aload_n 0, 1) := by decide +kernel
theorem dX7_freeFor_38 : decode cX7_freeFor 38 = .ok (.iload_n 3, 1) := by decide +kernel
theorem dX7_freeFor_39 : decode cX7_freeFor 39 = .ok (.invokevirtual 184, 3) := by decide +kernel
theorem dX7_freeFor_42 : decode cX7_freeFor 42 = .ok (.ifCond .eq 9, 3) := by decide +kernel
theorem dX7_freeFor_45 : decode cX7_freeFor 45 = .ok (.iload_n 2, 1) := by decide +kernel
theorem dX7_freeFor_46 : decode cX7_freeFor 46 = .ok (.ifCond .ge 5, 3) := by decide +kernel
theorem dX7_freeFor_49 : decode cX7_freeFor 49 = .ok (.iload_n 3, 1) := by decide +kernel
theorem dX7_freeFor_50 : decode cX7_freeFor 50 = .ok (.istore_n 2, 1) := by decide +kernel
theorem dX7_freeFor_51 : decode cX7_freeFor 51 = .ok (.iinc 3 1, 3) := by decide +kernel
theorem dX7_freeFor_54 : decode cX7_freeFor 54 = .ok (.goto (-49), 3) := by decide +kernel
theorem dX7_freeFor_57 : decode cX7_freeFor 57 = .ok (.iload_n 2, 1) := by decide +kernel
theorem dX7_freeFor_58 : decode cX7_freeFor 58 = .ok (.ireturn, 1) := by decide +kernel
theorem dX7_isServed_0 : decode cX7_isServed 0 = .ok (.aload_n 0, 1) := by decide +kernel
theorem dX7_isServed_1 : decode cX7_isServed 1 = .ok (.iload_n 1, 1) := by decide +kernel
theorem dX7_isServed_2 : decode cX7_isServed 2 = .ok (.invokevirtual 187, 3) := by decide +kernel
theorem dX7_isServed_5 : decode cX7_isServed 5 = .ok (.istore_n 2, 1) := by decide +kernel
theorem dX7_isServed_6 : decode cX7_isServed 6 = .ok (.iload_n 2, 1) := by decide +kernel
theorem dX7_isServed_7 : decode cX7_isServed 7 = .ok (.ifCond .lt 44, 3) := by decide +kernel
theorem dX7_isServed_10 : decode cX7_isServed 10 = .ok (.aload_n 0, 1) := by decide +kernel
theorem dX7_isServed_11 : decode cX7_isServed 11 = .ok (.getfield 40, 3) := by decide +kernel
theorem dX7_isServed_14 : decode cX7_isServed 14 = .ok (.iload_n 2, 1) := by decide +kernel
theorem dX7_isServed_15 : decode cX7_isServed 15 = .ok (.dup2, 1) := by decide +kernel
theorem dX7_isServed_16 : decode cX7_isServed 16 = .ok (.iaload, 1) := by decide +kernel
theorem dX7_isServed_17 : decode cX7_isServed 17 = .ok (.aload_n 0, 1) := by decide +kernel
theorem dX7_isServed_18 : decode cX7_isServed 18 = .ok (.getfield 25, 3) := by decide +kernel
theorem dX7_isServed_21 : decode cX7_isServed 21 = .ok (.iload_n 1, 1) := by decide +kernel
theorem dX7_isServed_22 : decode cX7_isServed 22 = .ok (.iaload, 1) := by decide +kernel
theorem dX7_isServed_23 : decode cX7_isServed 23 = .ok (.isub, 1) := by decide +kernel
theorem dX7_isServed_24 : decode cX7_isServed 24 = .ok (.iastore, 1) := by decide +kernel
theorem dX7_isServed_25 : decode cX7_isServed 25 = .ok (.aload_n 0, 1) := by decide +kernel
theorem dX7_isServed_26 : decode cX7_isServed 26 = .ok (.getfield 31, 3) := by decide +kernel
theorem dX7_isServed_29 : decode cX7_isServed 29 = .ok (.iload_n 1, 1) := by decide +kernel
theorem dX7_isServed_30 : decode cX7_isServed 30 = .ok (.iconst 2, 1) := by decide +kernel
theorem dX7_isServed_31 : decode cX7_isServed 31 = .ok (.iastore, 1) := by decide +kernel
theorem dX7_isServed_32 : decode cX7_isServed 32 = .ok (.aload_n 0, 1) := by decide +kernel
theorem dX7_isServed_33 : decode cX7_isServed 33 = .ok (.getfield 34, 3) := by decide +kernel
theorem dX7_isServed_36 : decode cX7_isServed 36 = .ok (.iload_n 1, 1) := by decide +kernel
theorem dX7_isServed_37 : decode cX7_isServed 37 = .ok (.aload_n 0, 1) := by decide +kernel
theorem dX7_isServed_38 : decode cX7_isServed 38 = .ok (.getfield 122, 3) := by decide +kernel
theorem dX7_isServed_41 : decode cX7_isServed 41 = .ok (.aload_n 0, 1) := by decide +kernel
theorem dX7_isServed_42 : decode cX7_isServed 42 = .ok (.getfield 22, 3) := by decide +kernel
theorem dX7_isServed_45 : decode cX7_isServed 45 = .ok (.iload_n 1, 1) := by decide +kernel
theorem dX7_isServed_46 : decode cX7_isServed 46 = .ok (.iaload, 1) := by decide +kernel
theorem dX7_isServed_47 : decode cX7_isServed 47 = .ok (.isub, 1) := by decide +kernel
theorem dX7_isServed_48 : decode cX7_isServed 48 = .ok (.iastore, 1) := by decide +kernel
theorem dX7_isServed_49 : decode cX7_isServed 49 = .ok (.iconst 1, 1) := by decide +kernel
theorem dX7_isServed_50 : decode cX7_isServed 50 = .ok (.ireturn, 1) := by decide +kernel
theorem dX7_isServed_51 : decode cX7_isServed 51 = .ok (.aload_n 0, 1) := by decide +kernel
theorem dX7_isServed_52 : decode cX7_isServed 52 = .ok (.iload_n 1, 1) := by decide +kernel
theorem dX7_isServed_53 : decode cX7_isServed 53 = .ok (.invokevirtual 190, 3) := by decide +kernel
theorem dX7_isServed_56 : decode cX7_isServed 56 = .ok (.istore_n 2, 1) := by decide +kernel
theorem dX7_isServed_57 : decode cX7_isServed 57 = .ok (.iload_n 2, 1) := by decide +kernel
theorem dX7_isServed_58 : decode cX7_isServed 58 = .ok (.ifCond .lt 9, 3) := by decide +kernel
theorem dX7_isServed_61 : decode cX7_isServed 61 = .ok (.aload_n 0, 1) := by decide +kernel
theorem dX7_isServed_62 : decode cX7_isServed 62 = .ok (.iload_n 1, 1) := by decide +kernel
theorem dX7_isServed_63 : decode cX7_isServed 63 = .ok (.iload_n 2, 1) := by decide +kernel
theorem dX7_isServed_64 : decode cX7_isServed 64 = .ok (.invokevirtual 193, 3) := by decide +kernel
theorem dX7_isServed_67 : decode cX7_isServed 67 = .ok (.iconst 0, 1) := by decide +kernel
theorem dX7_isServed_68 : decode cX7_isServed 68 = .ok (.ireturn, 1) := by decide +kernel
theorem dX7_leaves_0 : decode cX7_leaves 0 = .ok (.aload_n 0, 1) := by decide +kernel
theorem dX7_leaves_1 : decode cX7_leaves 1 = .ok (.dup, 1) := by decide +kernel
theorem dX7_leaves_2 : decode cX7_leaves 2 = .ok (.getfield 160, 3) := by decide +kernel
theorem dX7_leaves_5 : decode cX7_leaves 5 = .ok (.iconst 1, 1) := by decide +kernel
theorem dX7_leaves_6 : decode cX7_leaves 6 = .ok (.isub, 1) := by decide +kernel
theorem dX7_leaves_7 : decode cX7_leaves 7 = .ok (.putfield 160, 3) := by decide +kernel
theorem dX7_leaves_10 : decode cX7_leaves 10 = .ok (.iload_n 1, 1) := by decide +kernel
theorem dX7_leaves_11 : decode cX7_leaves 11 = .ok (.istore_n 2, 1) := by decide +kernel
theorem dX7_leaves_12 : decode cX7_leaves 12 = .ok (.iload_n 2, 1) := by decide +kernel
theorem dX7_leaves_13 : decode cX7_leaves 13 = .ok (.aload_n 0, 1) := by decide +kernel
theorem dX7_leaves_14 : decode cX7_leaves 14 = .ok (.getfield 160, 3) := by decide +kernel
theorem dX7_leaves_17 : decode cX7_leaves 17 = .ok (.if_icmp .ge 23, 3) := by decide +kernel
theorem dX7_leaves_20 : decode cX7_leaves 20 = .ok (.aload_n 0, 1) := by decide +kernel
theorem dX7_leaves_21 : decode cX7_leaves 21 = .ok (.getfield 37, 3) := by decide +kernel
theorem dX7_leaves_24 : decode cX7_leaves 24 = .ok (.iload_n 2, 1) := by decide +kernel
theorem dX7_leaves_25 : decode cX7_leaves 25 = .ok (.aload_n 0, 1) := by decide +kernel
theorem dX7_leaves_26 : decode cX7_leaves 26 = .ok (.getfield 37, 3) := by decide +kernel
theorem dX7_leaves_29 : decode cX7_leaves 29 = .ok (.iload_n 2, 1) := by decide +kernel
theorem dX7_leaves_30 : decode cX7_leaves 30 = .ok (.iconst 1, 1) := by decide +kernel
theorem dX7_leaves_31 : decode cX7_leaves 31 = .ok (.iadd, 1) := by decide +kernel
theorem dX7_leaves_32 : decode cX7_leaves 32 = .ok (.iaload, 1) := by decide +kernel
theorem dX7_leaves_33 : decode cX7_leaves 33 = .ok (.iastore, 1) := by decide +kernel
theorem dX7_leaves_34 : decode cX7_leaves 34 = .ok (.iinc 2 1, 3) := by decide +kernel
theorem dX7_leaves_37 : decode cX7_leaves 37 = .ok (.goto (-25), 3) := by decide +kernel
theorem dX7_leaves_40 : decode cX7_leaves 40 = .ok (.return_, 1) := by decide +kernel
theorem dX7_cools_0 : decode cX7_cools 0 = .ok (.iconst 0, 1) := by decide +kernel
theorem dX7_cools_1 : decode cX7_cools 1 = .ok (.istore_n 1, 1) := by decide +kernel
theorem dX7_cools_2 : decode cX7_cools 2 = .ok (.iload_n 1, 1) := by decide +kernel
theorem dX7_cools_3 : decode cX7_cools 3 = .ok (.aload_n 0, 1) := by decide +kernel
theorem dX7_cools_4 : decode cX7_cools 4 = .ok (.getfield 13, 3) := by decide +kernel
theorem dX7_cools_7 : decode cX7_cools 7 = .ok (.bipush 7, 2) := by decide +kernel
theorem dX7_cools_9 : decode cX7_cools 9 = .ok (.iaload, 1) := by decide +kernel
theorem dX7_cools_10 : decode cX7_cools 10 = .ok (.if_icmp .ge 91, 3) := by decide +kernel
theorem dX7_cools_13 : decode cX7_cools 13 = .ok (.aload_n 0, 1) := by decide +kernel
theorem dX7_cools_14 : decode cX7_cools 14 = .ok (.iload_n 1, 1) := by decide +kernel
theorem dX7_cools_15 : decode cX7_cools 15 = .ok (.invokevirtual 184, 3) := by decide +kernel
theorem dX7_cools_18 : decode cX7_cools 18 = .ok (.ifCond .eq 77, 3) := by decide +kernel
theorem dX7_cools_21 : decode cX7_cools 21 = .ok (.aload_n 0, 1) := by decide +kernel
theorem dX7_cools_22 : decode cX7_cools 22 = .ok (.getfield 40, 3) := by decide +kernel
theorem dX7_cools_25 : decode cX7_cools 25 = .ok (.iload_n 1, 1) := by decide +kernel
theorem dX7_cools_26 : decode cX7_cools 26 = .ok (.iaload, 1) := by decide +kernel
theorem dX7_cools_27 : decode cX7_cools 27 = .ok (.ifCond .ne 6, 3) := by decide +kernel
theorem dX7_cools_30 : decode cX7_cools 30 = .ok (.goto 65, 3) := by decide +kernel
theorem dX7_cools_33 : decode cX7_cools 33 = .ok (.aload_n 0, 1) := by decide +kernel
theorem dX7_cools_34 : decode cX7_cools 34 = .ok (.getfield 46, 3) := by decide +kernel
theorem dX7_cools_37 : decode cX7_cools 37 = .ok (.iload_n 1, 1) := by decide +kernel
theorem dX7_cools_38 : decode cX7_cools 38 = .ok (.dup2, 1) := by decide +kernel
theorem dX7_cools_39 : decode cX7_cools 39 = .ok (.iaload, 1) := by decide +kernel
theorem dX7_cools_40 : decode cX7_cools 40 = .ok (.iconst 1, 1) := by decide +kernel
theorem dX7_cools_41 : decode cX7_cools 41 = .ok (.iadd, 1) := by decide +kernel
theorem dX7_cools_42 : decode cX7_cools 42 = .ok (.iastore, 1) := by decide +kernel
theorem dX7_cools_43 : decode cX7_cools 43 = .ok (.aload_n 0, 1) := by decide +kernel
theorem dX7_cools_44 : decode cX7_cools 44 = .ok (.getfield 46, 3) := by decide +kernel
theorem dX7_cools_47 : decode cX7_cools 47 = .ok (.iload_n 1, 1) := by decide +kernel
theorem dX7_cools_48 : decode cX7_cools 48 = .ok (.iaload, 1) := by decide +kernel
theorem dX7_cools_49 : decode cX7_cools 49 = .ok (.aload_n 0, 1) := by decide +kernel
theorem dX7_cools_50 : decode cX7_cools 50 = .ok (.getfield 13, 3) := by decide +kernel
theorem dX7_cools_53 : decode cX7_cools 53 = .ok (.iconst 3, 1) := by decide +kernel
theorem dX7_cools_54 : decode cX7_cools 54 = .ok (.iaload, 1) := by decide +kernel
theorem dX7_cools_55 : decode cX7_cools 55 = .ok (.if_icmp .ge 6, 3) := by decide +kernel
theorem dX7_cools_58 : decode cX7_cools 58 = .ok (.goto 37, 3) := by decide +kernel
theorem dX7_cools_61 : decode cX7_cools 61 = .ok (.aload_n 0, 1) := by decide +kernel
theorem dX7_cools_62 : decode cX7_cools 62 = .ok (.getfield 43, 3) := by decide +kernel
theorem dX7_cools_65 : decode cX7_cools 65 = .ok (.iload_n 1, 1) := by decide +kernel
theorem dX7_cools_66 : decode cX7_cools 66 = .ok (.aload_n 0, 1) := by decide +kernel
theorem dX7_cools_67 : decode cX7_cools 67 = .ok (.getfield 43, 3) := by decide +kernel
theorem dX7_cools_70 : decode cX7_cools 70 = .ok (.iload_n 1, 1) := by decide +kernel
theorem dX7_cools_71 : decode cX7_cools 71 = .ok (.iaload, 1) := by decide +kernel
theorem dX7_cools_72 : decode cX7_cools 72 = .ok (.ifCond .le 14, 3) := by decide +kernel
theorem dX7_cools_75 : decode cX7_cools 75 = .ok (.aload_n 0, 1) := by decide +kernel
theorem dX7_cools_76 : decode cX7_cools 76 = .ok (.getfield 43, 3) := by decide +kernel
theorem dX7_cools_79 : decode cX7_cools 79 = .ok (.iload_n 1, 1) := by decide +kernel
theorem dX7_cools_80 : decode cX7_cools 80 = .ok (.iaload, 1) := by decide +kernel
theorem dX7_cools_81 : decode cX7_cools 81 = .ok (.iconst 1, 1) := by decide +kernel
theorem dX7_cools_82 : decode cX7_cools 82 = .ok (.isub, 1) := by decide +kernel
theorem dX7_cools_83 : decode cX7_cools 83 = .ok (.goto 4, 3) := by decide +kernel
theorem dX7_cools_86 : decode cX7_cools 86 = .ok (.iconst 0, 1) := by decide +kernel
theorem dX7_cools_87 : decode cX7_cools 87 = .ok (.iastore, 1) := by decide +kernel
theorem dX7_cools_88 : decode cX7_cools 88 = .ok (.aload_n 0, 1) := by decide +kernel
theorem dX7_cools_89 : decode cX7_cools 89 = .ok (.getfield 46, 3) := by decide +kernel
theorem dX7_cools_92 : decode cX7_cools 92 = .ok (.iload_n 1, 1) := by decide +kernel
theorem dX7_cools_93 : decode cX7_cools 93 = .ok (.iconst 0, 1) := by decide +kernel
theorem dX7_cools_94 : decode cX7_cools 94 = .ok (.iastore, 1) := by decide +kernel
theorem dX7_cools_95 : decode cX7_cools 95 = .ok (.iinc 1 1, 3) := by decide +kernel
theorem dX7_cools_98 : decode cX7_cools 98 = .ok (.goto (-96), 3) := by decide +kernel
theorem dX7_cools_101 : decode cX7_cools 101 = .ok (.return_, 1) := by decide +kernel
theorem dX7_goesMinute_0 : decode cX7_goesMinute 0 = .ok (.iconst 0, 1) := by decide +kernel
theorem dX7_goesMinute_1 : decode cX7_goesMinute 1 = .ok (.istore_n 1, 1) := by decide +kernel
theorem dX7_goesMinute_2 : decode cX7_goesMinute 2 = .ok (.iload_n 1, 1) := by decide +kernel
theorem dX7_goesMinute_3 : decode cX7_goesMinute 3 = .ok (.aload_n 0, 1) := by decide +kernel
theorem dX7_goesMinute_4 : decode cX7_goesMinute 4 = .ok (.getfield 77, 3) := by decide +kernel
theorem dX7_goesMinute_7 : decode cX7_goesMinute 7 = .ok (.if_icmp .ge 61, 3) := by decide +kernel
theorem dX7_goesMinute_10 : decode cX7_goesMinute 10 = .ok (.aload_n 0, 1) := by decide +kernel
theorem dX7_goesMinute_11 : decode cX7_goesMinute 11 = .ok (.getfield 31, 3) := by decide +kernel
theorem dX7_goesMinute_14 : decode cX7_goesMinute 14 = .ok (.iload_n 1, 1) := by decide +kernel
theorem dX7_goesMinute_15 : decode cX7_goesMinute 15 = .ok (.iaload, 1) := by decide +kernel
theorem dX7_goesMinute_16 : decode cX7_goesMinute 16 = .ok (.ifCond .ne 46, 3) := by decide +kernel
theorem dX7_goesMinute_19 : decode cX7_goesMinute 19 = .ok (.aload_n 0, 1) := by decide +kernel
theorem dX7_goesMinute_20 : decode cX7_goesMinute 20 = .ok (.getfield 22, 3) := by decide +kernel
theorem dX7_goesMinute_23 : decode cX7_goesMinute 23 = .ok (.iload_n 1, 1) := by decide +kernel
theorem dX7_goesMinute_24 : decode cX7_goesMinute 24 = .ok (.iaload, 1) := by decide +kernel
theorem dX7_goesMinute_25 : decode cX7_goesMinute 25 = .ok (.aload_n 0, 1) := by decide +kernel
theorem dX7_goesMinute_26 : decode cX7_goesMinute 26 = .ok (.getfield 122, 3) := by decide +kernel
theorem dX7_goesMinute_29 : decode cX7_goesMinute 29 = .ok (.if_icmp .eq 6, 3) := by decide +kernel
theorem dX7_goesMinute_32 : decode cX7_goesMinute 32 = .ok (.goto 30, 3) := by decide +kernel
theorem dX7_goesMinute_35 : decode cX7_goesMinute 35 = .ok (.aload_n 0, 1) := by decide +kernel
theorem dX7_goesMinute_36 : decode cX7_goesMinute 36 = .ok (.getfield 31, 3) := by decide +kernel
theorem dX7_goesMinute_39 : decode cX7_goesMinute 39 = .ok (.iload_n 1, 1) := by decide +kernel
theorem dX7_goesMinute_40 : decode cX7_goesMinute 40 = .ok (.iconst 1, 1) := by decide +kernel
theorem dX7_goesMinute_41 : decode cX7_goesMinute 41 = .ok (.iastore, 1) := by decide +kernel
theorem dX7_goesMinute_42 : decode cX7_goesMinute 42 = .ok (.aload_n 0, 1) := by decide +kernel
theorem dX7_goesMinute_43 : decode cX7_goesMinute 43 = .ok (.getfield 37, 3) := by decide +kernel
theorem dX7_goesMinute_46 : decode cX7_goesMinute 46 = .ok (.aload_n 0, 1) := by decide +kernel
theorem dX7_goesMinute_47 : decode cX7_goesMinute 47 = .ok (.getfield 160, 3) := by decide +kernel
theorem dX7_goesMinute_50 : decode cX7_goesMinute 50 = .ok (.iload_n 1, 1) := by decide +kernel
theorem dX7_goesMinute_51 : decode cX7_goesMinute 51 = .ok (.iastore, 1) := by decide +kernel
theorem dX7_goesMinute_52 : decode cX7_goesMinute 52 = .ok (.aload_n 0, 1) := by decide +kernel
theorem dX7_goesMinute_53 : decode cX7_goesMinute 53 = .ok (.dup, 1) := by decide +kernel
theorem dX7_goesMinute_54 : decode cX7_goesMinute 54 = .ok (.getfield 160, 3) := by decide +kernel
theorem dX7_goesMinute_57 : decode cX7_goesMinute 57 = .ok (.iconst 1, 1) := by decide +kernel
theorem dX7_goesMinute_58 : decode cX7_goesMinute 58 = .ok (.iadd, 1) := by decide +kernel
theorem dX7_goesMinute_59 : decode cX7_goesMinute 59 = .ok (.putfield 160, 3) := by decide +kernel
theorem dX7_goesMinute_62 : decode cX7_goesMinute 62 = .ok (.iinc 1 1, 3) := by decide +kernel
theorem dX7_goesMinute_65 : decode cX7_goesMinute 65 = .ok (.goto (-63), 3) := by decide +kernel
theorem dX7_goesMinute_68 : decode cX7_goesMinute 68 = .ok (.aload_n 0, 1) := by decide +kernel
theorem dX7_goesMinute_69 : decode cX7_goesMinute 69 = .ok (.getfield 160, 3) := by decide +kernel
theorem dX7_goesMinute_72 : decode cX7_goesMinute 72 = .ok (.iconst 1, 1) := by decide +kernel
theorem dX7_goesMinute_73 : decode cX7_goesMinute 73 = .ok (.isub, 1) := by decide +kernel
theorem dX7_goesMinute_74 : decode cX7_goesMinute 74 = .ok (.istore_n 1, 1) := by decide +kernel
theorem dX7_goesMinute_75 : decode cX7_goesMinute 75 = .ok (.iload_n 1, 1) := by decide +kernel
theorem dX7_goesMinute_76 : decode cX7_goesMinute 76 = .ok (.ifCond .lt 63, 3) := by decide +kernel
theorem dX7_goesMinute_79 : decode cX7_goesMinute 79 = .ok (.aload_n 0, 1) := by decide +kernel
theorem dX7_goesMinute_80 : decode cX7_goesMinute 80 = .ok (.getfield 37, 3) := by decide +kernel
theorem dX7_goesMinute_83 : decode cX7_goesMinute 83 = .ok (.iload_n 1, 1) := by decide +kernel
theorem dX7_goesMinute_84 : decode cX7_goesMinute 84 = .ok (.iaload, 1) := by decide +kernel
theorem dX7_goesMinute_85 : decode cX7_goesMinute 85 = .ok (.istore_n 2, 1) := by decide +kernel
theorem dX7_goesMinute_86 : decode cX7_goesMinute 86 = .ok (.aload_n 0, 1) := by decide +kernel
theorem dX7_goesMinute_87 : decode cX7_goesMinute 87 = .ok (.getfield 122, 3) := by decide +kernel
theorem dX7_goesMinute_90 : decode cX7_goesMinute 90 = .ok (.aload_n 0, 1) := by decide +kernel
theorem dX7_goesMinute_91 : decode cX7_goesMinute 91 = .ok (.getfield 22, 3) := by decide +kernel
theorem dX7_goesMinute_94 : decode cX7_goesMinute 94 = .ok (.iload_n 2, 1) := by decide +kernel
theorem dX7_goesMinute_95 : decode cX7_goesMinute 95 = .ok (.iaload, 1) := by decide +kernel
theorem dX7_goesMinute_96 : decode cX7_goesMinute 96 = .ok (.isub, 1) := by decide +kernel
theorem dX7_goesMinute_97 : decode cX7_goesMinute 97 = .ok (.aload_n 0, 1) := by decide +kernel
theorem dX7_goesMinute_98 : decode cX7_goesMinute 98 = .ok (.getfield 28, 3) := by decide +kernel
theorem dX7_goesMinute_101 : decode cX7_goesMinute 101 = .ok (.iload_n 2, 1) := by decide +kernel
theorem dX7_goesMinute_102 : decode cX7_goesMinute 102 = .ok (.iaload, 1) := by decide +kernel
theorem dX7_goesMinute_103 : decode cX7_goesMinute 103 = .ok (.if_icmp .gt 6, 3) := by decide +kernel
theorem dX7_goesMinute_106 : decode cX7_goesMinute 106 = .ok (.goto 27, 3) := by decide +kernel
theorem dX7_goesMinute_109 : decode cX7_goesMinute 109 = .ok (.aload_n 0, 1) := by decide +kernel
theorem dX7_goesMinute_110 : decode cX7_goesMinute 110 = .ok (.getfield 31, 3) := by decide +kernel
theorem dX7_goesMinute_113 : decode cX7_goesMinute 113 = .ok (.iload_n 2, 1) := by decide +kernel
theorem dX7_goesMinute_114 : decode cX7_goesMinute 114 = .ok (.iconst 3, 1) := by decide +kernel
theorem dX7_goesMinute_115 : decode cX7_goesMinute 115 = .ok (.iastore, 1) := by decide +kernel
theorem dX7_goesMinute_116 : decode cX7_goesMinute 116 = .ok (.aload_n 0, 1) := by decide +kernel
theorem dX7_goesMinute_117 : decode cX7_goesMinute 117 = .ok (.getfield 34, 3) := by decide +kernel
theorem dX7_goesMinute_120 : decode cX7_goesMinute 120 = .ok (.iload_n 2, 1) := by decide +kernel
theorem dX7_goesMinute_121 : decode cX7_goesMinute 121 = .ok (.aload_n 0, 1) := by decide +kernel
theorem dX7_goesMinute_122 : decode cX7_goesMinute 122 = .ok (.getfield 28, 3) := by decide +kernel
theorem dX7_goesMinute_125 : decode cX7_goesMinute 125 = .ok (.iload_n 2, 1) := by decide +kernel
theorem dX7_goesMinute_126 : decode cX7_goesMinute 126 = .ok (.iaload, 1) := by decide +kernel
theorem dX7_goesMinute_127 : decode cX7_goesMinute 127 = .ok (.iastore, 1) := by decide +kernel
theorem dX7_goesMinute_128 : decode cX7_goesMinute 128 = .ok (.aload_n 0, 1) := by decide +kernel
theorem dX7_goesMinute_129 : decode cX7_goesMinute 129 = .ok (.iload_n 1, 1) := by decide +kernel
theorem dX7_goesMinute_130 : decode cX7_goesMinute 130 = .ok (.invokevirtual 197, 3) := by decide +kernel
theorem dX7_goesMinute_133 : decode cX7_goesMinute 133 = .ok (.iinc 1 (-1), 3) := by decide +kernel
theorem dX7_goesMinute_136 : decode cX7_goesMinute 136 = .ok (.goto (-61), 3) := by decide +kernel
theorem dX7_goesMinute_139 : decode cX7_goesMinute 139 = .ok (.iconst 0, 1) := by decide +kernel
theorem dX7_goesMinute_140 : decode cX7_goesMinute 140 = .ok (.istore_n 1, 1) := by decide +kernel
theorem dX7_goesMinute_141 : decode cX7_goesMinute 141 = .ok (.iload_n 1, 1) := by decide +kernel
theorem dX7_goesMinute_142 : decode cX7_goesMinute 142 = .ok (.aload_n 0, 1) := by decide +kernel
theorem dX7_goesMinute_143 : decode cX7_goesMinute 143 = .ok (.getfield 160, 3) := by decide +kernel
theorem dX7_goesMinute_146 : decode cX7_goesMinute 146 = .ok (.if_icmp .ge 30, 3) := by decide +kernel
theorem dX7_goesMinute_149 : decode cX7_goesMinute 149 = .ok (.aload_n 0, 1) := by decide +kernel
theorem dX7_goesMinute_150 : decode cX7_goesMinute 150 = .ok (.aload_n 0, 1) := by decide +kernel
theorem dX7_goesMinute_151 : decode cX7_goesMinute 151 = .ok (.getfield 37, 3) := by decide +kernel
theorem dX7_goesMinute_154 : decode cX7_goesMinute 154 = .ok (.iload_n 1, 1) := by decide +kernel
theorem dX7_goesMinute_155 : decode cX7_goesMinute 155 = .ok (.iaload, 1) := by decide +kernel
theorem dX7_goesMinute_156 : decode cX7_goesMinute 156 = .ok (.invokevirtual 201, 3) := by decide +kernel
theorem dX7_goesMinute_159 : decode cX7_goesMinute 159 = .ok (.ifCond .eq 11, 3) := by decide +kernel
theorem dX7_goesMinute_162 : decode cX7_goesMinute 162 = .ok (.aload_n 0, 1) := by decide +kernel
theorem dX7_goesMinute_163 : decode cX7_goesMinute 163 = .ok (.iload_n 1, 1) := by decide +kernel
theorem dX7_goesMinute_164 : decode cX7_goesMinute 164 = .ok (.invokevirtual 197, 3) := by decide +kernel
theorem dX7_goesMinute_167 : decode cX7_goesMinute 167 = .ok (.goto (-26), 3) := by decide +kernel
theorem dX7_goesMinute_170 : decode cX7_goesMinute 170 = .ok (.iinc 1 1, 3) := by decide +kernel
theorem dX7_goesMinute_173 : decode cX7_goesMinute 173 = .ok (.goto (-32), 3) := by decide +kernel
theorem dX7_goesMinute_176 : decode cX7_goesMinute 176 = .ok (.aload_n 0, 1) := by decide +kernel
theorem dX7_goesMinute_177 : decode cX7_goesMinute 177 = .ok (.invokevirtual 204, 3) := by decide +kernel
theorem dX7_goesMinute_180 : decode cX7_goesMinute 180 = .ok (.aload_n 0, 1) := by decide +kernel
theorem dX7_goesMinute_181 : decode cX7_goesMinute 181 = .ok (.dup, 1) := by decide +kernel
theorem dX7_goesMinute_182 : decode cX7_goesMinute 182 = .ok (.getfield 122, 3) := by decide +kernel
theorem dX7_goesMinute_185 : decode cX7_goesMinute 185 = .ok (.iconst 1, 1) := by decide +kernel
theorem dX7_goesMinute_186 : decode cX7_goesMinute 186 = .ok (.iadd, 1) := by decide +kernel
theorem dX7_goesMinute_187 : decode cX7_goesMinute 187 = .ok (.putfield 122, 3) := by decide +kernel
theorem dX7_goesMinute_190 : decode cX7_goesMinute 190 = .ok (.return_, 1) := by decide +kernel
theorem dX7_isOver_0 : decode cX7_isOver 0 = .ok (.aload_n 0, 1) := by decide +kernel
theorem dX7_isOver_1 : decode cX7_isOver 1 = .ok (.getfield 122, 3) := by decide +kernel
theorem dX7_isOver_4 : decode cX7_isOver 4 = .ok (.sipush 180, 3) := by decide +kernel
theorem dX7_isOver_7 : decode cX7_isOver 7 = .ok (.if_icmp .lt 5, 3) := by decide +kernel
theorem dX7_isOver_10 : decode cX7_isOver 10 = .ok (.iconst 1, 1) := by decide +kernel
theorem dX7_isOver_11 : decode cX7_isOver 11 = .ok (.ireturn, 1) := by decide +kernel
theorem dX7_isOver_12 : decode cX7_isOver 12 = .ok (.iconst 0, 1) := by decide +kernel
theorem dX7_isOver_13 : decode cX7_isOver 13 = .ok (.istore_n 1, 1) := by decide +kernel
theorem dX7_isOver_14 : decode cX7_isOver 14 = .ok (.iload_n 1, 1) := by decide +kernel
theorem dX7_isOver_15 : decode cX7_isOver 15 = .ok (.aload_n 0, 1) := by decide +kernel
theorem dX7_isOver_16 : decode cX7_isOver 16 = .ok (.getfield 77, 3) := by decide +kernel
theorem dX7_isOver_19 : decode cX7_isOver 19 = .ok (.if_icmp .ge 30, 3) := by decide +kernel
theorem dX7_isOver_22 : decode cX7_isOver 22 = .ok (.aload_n 0, 1) := by decide +kernel
theorem dX7_isOver_23 : decode cX7_isOver 23 = .ok (.getfield 31, 3) := by decide +kernel
theorem dX7_isOver_26 : decode cX7_isOver 26 = .ok (.iload_n 1, 1) := by decide +kernel
theorem dX7_isOver_27 : decode cX7_isOver 27 = .ok (.iaload, 1) := by decide +kernel
theorem dX7_isOver_28 : decode cX7_isOver 28 = .ok (.ifCond .eq 13, 3) := by decide +kernel
theorem dX7_isOver_31 : decode cX7_isOver 31 = .ok (.aload_n 0, 1) := by decide +kernel
theorem dX7_isOver_32 : decode cX7_isOver 32 = .ok (.getfield 31, 3) := by decide +kernel
theorem dX7_isOver_35 : decode cX7_isOver 35 = .ok (.iload_n 1, 1) := by decide +kernel
theorem dX7_isOver_36 : decode cX7_isOver 36 = .ok (.iaload, 1) := by decide +kernel
theorem dX7_isOver_37 : decode cX7_isOver 37 = .ok (.iconst 1, 1) := by decide +kernel
theorem dX7_isOver_38 : decode cX7_isOver 38 = .ok (.if_icmp .ne 5, 3) := by decide +kernel
theorem dX7_isOver_41 : decode cX7_isOver 41 = .ok (.iconst 0, 1) := by decide +kernel
theorem dX7_isOver_42 : decode cX7_isOver 42 = .ok (.ireturn, 1) := by decide +kernel
theorem dX7_isOver_43 : decode cX7_isOver 43 = .ok (.iinc 1 1, 3) := by decide +kernel
theorem dX7_isOver_46 : decode cX7_isOver 46 = .ok (.goto (-32), 3) := by decide +kernel
theorem dX7_isOver_49 : decode cX7_isOver 49 = .ok (.aload_n 0, 1) := by decide +kernel
theorem dX7_isOver_50 : decode cX7_isOver 50 = .ok (.iconst 0, 1) := by decide +kernel
theorem dX7_isOver_51 : decode cX7_isOver 51 = .ok (.invokevirtual 184, 3) := by decide +kernel
theorem dX7_isOver_54 : decode cX7_isOver 54 = .ok (.ifCond .eq 15, 3) := by decide +kernel
theorem dX7_isOver_57 : decode cX7_isOver 57 = .ok (.aload_n 0, 1) := by decide +kernel
theorem dX7_isOver_58 : decode cX7_isOver 58 = .ok (.iconst 1, 1) := by decide +kernel
theorem dX7_isOver_59 : decode cX7_isOver 59 = .ok (.invokevirtual 184, 3) := by decide +kernel
theorem dX7_isOver_62 : decode cX7_isOver 62 = .ok (.ifCond .eq 7, 3) := by decide +kernel
theorem dX7_isOver_65 : decode cX7_isOver 65 = .ok (.iconst 1, 1) := by decide +kernel
theorem dX7_isOver_66 : decode cX7_isOver 66 = .ok (.goto 4, 3) := by decide +kernel
theorem dX7_isOver_69 : decode cX7_isOver 69 = .ok (.iconst 0, 1) := by decide +kernel
theorem dX7_isOver_70 : decode cX7_isOver 70 = .ok (.ireturn, 1) := by decide +kernel
theorem dX7_goesToEnd_0 : decode cX7_goesToEnd 0 = .ok (.aload_n 0, 1) := by decide +kernel
theorem dX7_goesToEnd_1 : decode cX7_goesToEnd 1 = .ok (.iconst 0, 1) := by decide +kernel
theorem dX7_goesToEnd_2 : decode cX7_goesToEnd 2 = .ok (.putfield 181, 3) := by decide +kernel
theorem dX7_goesToEnd_5 : decode cX7_goesToEnd 5 = .ok (.aload_n 0, 1) := by decide +kernel
theorem dX7_goesToEnd_6 : decode cX7_goesToEnd 6 = .ok (.invokevirtual 207, 3) := by decide +kernel
theorem dX7_goesToEnd_9 : decode cX7_goesToEnd 9 = .ok (.ifCond .ne 10, 3) := by decide +kernel
theorem dX7_goesToEnd_12 : decode cX7_goesToEnd 12 = .ok (.aload_n 0, 1) := by decide +kernel
theorem dX7_goesToEnd_13 : decode cX7_goesToEnd 13 = .ok (.invokevirtual 210, 3) := by decide +kernel
theorem dX7_goesToEnd_16 : decode cX7_goesToEnd 16 = .ok (.goto (-11), 3) := by decide +kernel
theorem dX7_goesToEnd_19 : decode cX7_goesToEnd 19 = .ok (.return_, 1) := by decide +kernel
theorem dX7_begins_0 : decode cX7_begins 0 = .ok (.aload_n 0, 1) := by decide +kernel
theorem dX7_begins_1 : decode cX7_begins 1 = .ok (.iconst 0, 1) := by decide +kernel
theorem dX7_begins_2 : decode cX7_begins 2 = .ok (.putfield 122, 3) := by decide +kernel
theorem dX7_begins_5 : decode cX7_begins 5 = .ok (.aload_n 0, 1) := by decide +kernel
theorem dX7_begins_6 : decode cX7_begins 6 = .ok (.iconst 0, 1) := by decide +kernel
theorem dX7_begins_7 : decode cX7_begins 7 = .ok (.putfield 160, 3) := by decide +kernel
theorem dX7_begins_10 : decode cX7_begins 10 = .ok (.iconst 0, 1) := by decide +kernel
theorem dX7_begins_11 : decode cX7_begins 11 = .ok (.istore_n 1, 1) := by decide +kernel
theorem dX7_begins_12 : decode cX7_begins 12 = .ok (.iload_n 1, 1) := by decide +kernel
theorem dX7_begins_13 : decode cX7_begins 13 = .ok (.bipush 8, 2) := by decide +kernel
theorem dX7_begins_15 : decode cX7_begins 15 = .ok (.if_icmp .ge 23, 3) := by decide +kernel
theorem dX7_begins_18 : decode cX7_begins 18 = .ok (.aload_n 0, 1) := by decide +kernel
theorem dX7_begins_19 : decode cX7_begins 19 = .ok (.getfield 31, 3) := by decide +kernel
theorem dX7_begins_22 : decode cX7_begins 22 = .ok (.iload_n 1, 1) := by decide +kernel
theorem dX7_begins_23 : decode cX7_begins 23 = .ok (.iconst 0, 1) := by decide +kernel
theorem dX7_begins_24 : decode cX7_begins 24 = .ok (.iastore, 1) := by decide +kernel
theorem dX7_begins_25 : decode cX7_begins 25 = .ok (.aload_n 0, 1) := by decide +kernel
theorem dX7_begins_26 : decode cX7_begins 26 = .ok (.getfield 34, 3) := by decide +kernel
theorem dX7_begins_29 : decode cX7_begins 29 = .ok (.iload_n 1, 1) := by decide +kernel
theorem dX7_begins_30 : decode cX7_begins 30 = .ok (.iconst 0, 1) := by decide +kernel
theorem dX7_begins_31 : decode cX7_begins 31 = .ok (.iastore, 1) := by decide +kernel
theorem dX7_begins_32 : decode cX7_begins 32 = .ok (.iinc 1 1, 3) := by decide +kernel
theorem dX7_begins_35 : decode cX7_begins 35 = .ok (.goto (-23), 3) := by decide +kernel
theorem dX7_begins_38 : decode cX7_begins 38 = .ok (.iconst 0, 1) := by decide +kernel
theorem dX7_begins_39 : decode cX7_begins 39 = .ok (.istore_n 1, 1) := by decide +kernel
theorem dX7_begins_40 : decode cX7_begins 40 = .ok (.iload_n 1, 1) := by decide +kernel
theorem dX7_begins_41 : decode cX7_begins 41 = .ok (.iconst 2, 1) := by decide +kernel
theorem dX7_begins_42 : decode cX7_begins 42 = .ok (.if_icmp .ge 45, 3) := by decide +kernel
theorem dX7_begins_45 : decode cX7_begins 45 = .ok (.aload_n 0, 1) := by decide +kernel
theorem dX7_begins_46 : decode cX7_begins 46 = .ok (.getfield 40, 3) := by decide +kernel
theorem dX7_begins_49 : decode cX7_begins 49 = .ok (.iload_n 1, 1) := by decide +kernel
theorem dX7_begins_50 : decode cX7_begins 50 = .ok (.iconst 0, 1) := by decide +kernel
theorem dX7_begins_51 : decode cX7_begins 51 = .ok (.iastore, 1) := by decide +kernel
theorem dX7_begins_52 : decode cX7_begins 52 = .ok (.aload_n 0, 1) := by decide +kernel
theorem dX7_begins_53 : decode cX7_begins 53 = .ok (.getfield 43, 3) := by decide +kernel
theorem dX7_begins_56 : decode cX7_begins 56 = .ok (.iload_n 1, 1) := by decide +kernel
theorem dX7_begins_57 : decode cX7_begins 57 = .ok (.iconst 0, 1) := by decide +kernel
theorem dX7_begins_58 : decode cX7_begins 58 = .ok (.iastore, 1) := by decide +kernel
theorem dX7_begins_59 : decode cX7_begins 59 = .ok (.aload_n 0, 1) := by decide +kernel
theorem dX7_begins_60 : decode cX7_begins 60 = .ok (.getfield 46, 3) := by decide +kernel
theorem dX7_begins_63 : decode cX7_begins 63 = .ok (.iload_n 1, 1) := by decide +kernel
theorem dX7_begins_64 : decode cX7_begins 64 = .ok (.iconst 0, 1) := by decide +kernel
theorem dX7_begins_65 : decode cX7_begins 65 = .ok (.iastore, 1) := by decide +kernel
theorem dX7_begins_66 : decode cX7_begins 66 = .ok (.aload_n 0, 1) := by decide +kernel
theorem dX7_begins_67 : decode cX7_begins 67 = .ok (.getfield 49, 3) := by decide +kernel
theorem dX7_begins_70 : decode cX7_begins 70 = .ok (.iload_n 1, 1) := by decide +kernel
theorem dX7_begins_71 : decode cX7_begins 71 = .ok (.iconst 0, 1) := by decide +kernel
theorem dX7_begins_72 : decode cX7_begins 72 = .ok (.iastore, 1) := by decide +kernel
theorem dX7_begins_73 : decode cX7_begins 73 = .ok (.aload_n 0, 1) := by decide +kernel
theorem dX7_begins_74 : decode cX7_begins 74 = .ok (.getfield 52, 3) := by decide +kernel
theorem dX7_begins_77 : decode cX7_begins 77 = .ok (.iload_n 1, 1) := by decide +kernel
theorem dX7_begins_78 : decode cX7_begins 78 = .ok (.bipush (-9), 2) := by decide +kernel
theorem dX7_begins_80 : decode cX7_begins 80 = .ok (.iastore, 1) := by decide +kernel
theorem dX7_begins_81 : decode cX7_begins 81 = .ok (.iinc 1 1, 3) := by decide +kernel
theorem dX7_begins_84 : decode cX7_begins 84 = .ok (.goto (-44), 3) := by decide +kernel
theorem dX7_begins_87 : decode cX7_begins 87 = .ok (.return_, 1) := by decide +kernel
theorem dX7_stateMany_0 : decode cX7_stateMany 0 = .ok (.iconst 0, 1) := by decide +kernel
theorem dX7_stateMany_1 : decode cX7_stateMany 1 = .ok (.istore_n 2, 1) := by decide +kernel
theorem dX7_stateMany_2 : decode cX7_stateMany 2 = .ok (.iconst 0, 1) := by decide +kernel
theorem dX7_stateMany_3 : decode cX7_stateMany 3 = .ok (.istore_n 3, 1) := by decide +kernel
theorem dX7_stateMany_4 : decode cX7_stateMany 4 = .ok (.iload_n 3, 1) := by decide +kernel
theorem dX7_stateMany_5 : decode cX7_stateMany 5 = .ok (.aload_n 0, 1) := by decide +kernel
theorem dX7_stateMany_6 : decode cX7_stateMany 6 = .ok (.getfield 77, 3) := by decide +kernel
theorem dX7_stateMany_9 : decode cX7_stateMany 9 = .ok (.if_icmp .ge 27, 3) := by decide +kernel
theorem dX7_stateMany_12 : decode cX7_stateMany 12 = .ok (.iload_n 2, 1) := by decide +kernel
theorem dX7_stateMany_13 : decode cX7_stateMany 13 = .ok (.aload_n 0, 1) := by decide +kernel
theorem dX7_stateMany_14 : decode cX7_stateMany 14 = .ok (.getfield 31, 3) := by decide +kernel
theorem dX7_stateMany_17 : decode cX7_stateMany 17 = .ok (.iload_n 3, 1) := by decide +kernel
theorem dX7_stateMany_18 : decode cX7_stateMany 18 = .ok (.iaload, 1) := by decide +kernel
theorem dX7_stateMany_19 : decode cX7_stateMany 19 = .ok (.iload_n 1, 1) := by decide +kernel
theorem dX7_stateMany_20 : decode cX7_stateMany 20 = .ok (.if_icmp .ne 7, 3) := by decide +kernel
theorem dX7_stateMany_23 : decode cX7_stateMany 23 = .ok (.iconst 1, 1) := by decide +kernel
theorem dX7_stateMany_24 : decode cX7_stateMany 24 = .ok (.goto 4, 3) := by decide +kernel
theorem dX7_stateMany_27 : decode cX7_stateMany 27 = .ok (.iconst 0, 1) := by decide +kernel
theorem dX7_stateMany_28 : decode cX7_stateMany 28 = .ok (.iadd, 1) := by decide +kernel
theorem dX7_stateMany_29 : decode cX7_stateMany 29 = .ok (.istore_n 2, 1) := by decide +kernel
theorem dX7_stateMany_30 : decode cX7_stateMany 30 = .ok (.iinc 3 1, 3) := by decide +kernel
theorem dX7_stateMany_33 : decode cX7_stateMany 33 = .ok (.goto (-29), 3) := by decide +kernel
theorem dX7_stateMany_36 : decode cX7_stateMany 36 = .ok (.iload_n 2, 1) := by decide +kernel
theorem dX7_stateMany_37 : decode cX7_stateMany 37 = .ok (.ireturn, 1) := by decide +kernel
theorem dX7_waitedAll_0 : decode cX7_waitedAll 0 = .ok (.iconst 0, 1) := by decide +kernel
theorem dX7_waitedAll_1 : decode cX7_waitedAll 1 = .ok (.istore_n 1, 1) := by decide +kernel
theorem dX7_waitedAll_2 : decode cX7_waitedAll 2 = .ok (.iconst 0, 1) := by decide +kernel
theorem dX7_waitedAll_3 : decode cX7_waitedAll 3 = .ok (.istore_n 2, 1) := by decide +kernel
theorem dX7_waitedAll_4 : decode cX7_waitedAll 4 = .ok (.iload_n 2, 1) := by decide +kernel
theorem dX7_waitedAll_5 : decode cX7_waitedAll 5 = .ok (.aload_n 0, 1) := by decide +kernel
theorem dX7_waitedAll_6 : decode cX7_waitedAll 6 = .ok (.getfield 77, 3) := by decide +kernel
theorem dX7_waitedAll_9 : decode cX7_waitedAll 9 = .ok (.if_icmp .ge 18, 3) := by decide +kernel
theorem dX7_waitedAll_12 : decode cX7_waitedAll 12 = .ok (.iload_n 1, 1) := by decide +kernel
theorem dX7_waitedAll_13 : decode cX7_waitedAll 13 = .ok (.aload_n 0, 1) := by decide +kernel
theorem dX7_waitedAll_14 : decode cX7_waitedAll 14 = .ok (.getfield 34, 3) := by decide +kernel
theorem dX7_waitedAll_17 : decode cX7_waitedAll 17 = .ok (.iload_n 2, 1) := by decide +kernel
theorem dX7_waitedAll_18 : decode cX7_waitedAll 18 = .ok (.iaload, 1) := by decide +kernel
theorem dX7_waitedAll_19 : decode cX7_waitedAll 19 = .ok (.iadd, 1) := by decide +kernel
theorem dX7_waitedAll_20 : decode cX7_waitedAll 20 = .ok (.istore_n 1, 1) := by decide +kernel
theorem dX7_waitedAll_21 : decode cX7_waitedAll 21 = .ok (.iinc 2 1, 3) := by decide +kernel
theorem dX7_waitedAll_24 : decode cX7_waitedAll 24 = .ok (.goto (-20), 3) := by decide +kernel
theorem dX7_waitedAll_27 : decode cX7_waitedAll 27 = .ok (.iload_n 1, 1) := by decide +kernel
theorem dX7_waitedAll_28 : decode cX7_waitedAll 28 = .ok (.ireturn, 1) := by decide +kernel
theorem dX7_costNow_0 : decode cX7_costNow 0 = .ok (.aload_n 0, 1) := by decide +kernel
theorem dX7_costNow_1 : decode cX7_costNow 1 = .ok (.invokevirtual 213, 3) := by decide +kernel
theorem dX7_costNow_4 : decode cX7_costNow 4 = .ok (.aload_n 0, 1) := by decide +kernel
theorem dX7_costNow_5 : decode cX7_costNow 5 = .ok (.getfield 13, 3) := by decide +kernel
theorem dX7_costNow_8 : decode cX7_costNow 8 = .ok (.iconst 4, 1) := by decide +kernel
theorem dX7_costNow_9 : decode cX7_costNow 9 = .ok (.iaload, 1) := by decide +kernel
theorem dX7_costNow_10 : decode cX7_costNow 10 = .ok (.imul, 1) := by decide +kernel
theorem dX7_costNow_11 : decode cX7_costNow 11 = .ok (.aload_n 0, 1) := by decide +kernel
theorem dX7_costNow_12 : decode cX7_costNow 12 = .ok (.getfield 40, 3) := by decide +kernel
theorem dX7_costNow_15 : decode cX7_costNow 15 = .ok (.iconst 0, 1) := by decide +kernel
theorem dX7_costNow_16 : decode cX7_costNow 16 = .ok (.iaload, 1) := by decide +kernel
theorem dX7_costNow_17 : decode cX7_costNow 17 = .ok (.aload_n 0, 1) := by decide +kernel
theorem dX7_costNow_18 : decode cX7_costNow 18 = .ok (.getfield 40, 3) := by decide +kernel
theorem dX7_costNow_21 : decode cX7_costNow 21 = .ok (.iconst 1, 1) := by decide +kernel
theorem dX7_costNow_22 : decode cX7_costNow 22 = .ok (.iaload, 1) := by decide +kernel
theorem dX7_costNow_23 : decode cX7_costNow 23 = .ok (.iadd, 1) := by decide +kernel
theorem dX7_costNow_24 : decode cX7_costNow 24 = .ok (.aload_n 0, 1) := by decide +kernel
theorem dX7_costNow_25 : decode cX7_costNow 25 = .ok (.getfield 13, 3) := by decide +kernel
theorem dX7_costNow_28 : decode cX7_costNow 28 = .ok (.iconst 5, 1) := by decide +kernel
theorem dX7_costNow_29 : decode cX7_costNow 29 = .ok (.iaload, 1) := by decide +kernel
theorem dX7_costNow_30 : decode cX7_costNow 30 = .ok (.imul, 1) := by decide +kernel
theorem dX7_costNow_31 : decode cX7_costNow 31 = .ok (.iadd, 1) := by decide +kernel
theorem dX7_costNow_32 : decode cX7_costNow 32 = .ok (.bipush 9, 2) := by decide +kernel
theorem dX7_costNow_34 : decode cX7_costNow 34 = .ok (.aload_n 0, 1) := by decide +kernel
theorem dX7_costNow_35 : decode cX7_costNow 35 = .ok (.iconst 3, 1) := by decide +kernel
theorem dX7_costNow_36 : decode cX7_costNow 36 = .ok (.invokevirtual 216, 3) := by decide +kernel
theorem dX7_costNow_39 : decode cX7_costNow 39 = .ok (.imul, 1) := by decide +kernel
theorem dX7_costNow_40 : decode cX7_costNow 40 = .ok (.iadd, 1) := by decide +kernel
theorem dX7_costNow_41 : decode cX7_costNow 41 = .ok (.ireturn, 1) := by decide +kernel
theorem dX7_costAnew_0 : decode cX7_costAnew 0 = .ok (.aload_n 0, 1) := by decide +kernel
theorem dX7_costAnew_1 : decode cX7_costAnew 1 = .ok (.invokevirtual 219, 3) := by decide +kernel
theorem dX7_costAnew_4 : decode cX7_costAnew 4 = .ok (.aload_n 0, 1) := by decide +kernel
theorem dX7_costAnew_5 : decode cX7_costAnew 5 = .ok (.invokevirtual 222, 3) := by decide +kernel
theorem dX7_costAnew_8 : decode cX7_costAnew 8 = .ok (.aload_n 0, 1) := by decide +kernel
theorem dX7_costAnew_9 : decode cX7_costAnew 9 = .ok (.invokevirtual 225, 3) := by decide +kernel
theorem dX7_costAnew_12 : decode cX7_costAnew 12 = .ok (.ireturn, 1) := by decide +kernel
theorem dX7_comer_0 : decode cX7_comer 0 = .ok (.aload_n 0, 1) := by decide +kernel
theorem dX7_comer_1 : decode cX7_comer 1 = .ok (.iload_n 1, 1) := by decide +kernel
theorem dX7_comer_2 : decode cX7_comer 2 = .ok (.invokevirtual 132, 3) := by decide +kernel
theorem dX7_comer_5 : decode cX7_comer 5 = .ok (.ifCond .ne 9, 3) := by decide +kernel
theorem dX7_comer_8 : decode cX7_comer 8 = .ok (.aload_n 0, 1) := by decide +kernel
theorem dX7_comer_9 : decode cX7_comer 9 = .ok (.iconst (-1), 1) := by decide +kernel
theorem dX7_comer_10 : decode cX7_comer 10 = .ok (.invokevirtual 88, 3) := by decide +kernel
theorem dX7_comer_13 : decode cX7_comer 13 = .ok (.ireturn, 1) := by decide +kernel
theorem dX7_comer_14 : decode cX7_comer 14 = .ok (.iload_n 2, 1) := by decide +kernel
theorem dX7_comer_15 : decode cX7_comer 15 = .ok (.tableswitch 106 0 7 #[45, 52, 59, 66, 73, 80, 87, 94], 45) := by decide +kernel
theorem dX7_comer_60 : decode cX7_comer 60 = .ok (.aload_n 0, 1) := by decide +kernel
theorem dX7_comer_61 : decode cX7_comer 61 = .ok (.getfield 16, 3) := by decide +kernel
theorem dX7_comer_64 : decode cX7_comer 64 = .ok (.iload_n 1, 1) := by decide +kernel
theorem dX7_comer_65 : decode cX7_comer 65 = .ok (.iaload, 1) := by decide +kernel
theorem dX7_comer_66 : decode cX7_comer 66 = .ok (.ireturn, 1) := by decide +kernel
theorem dX7_comer_67 : decode cX7_comer 67 = .ok (.aload_n 0, 1) := by decide +kernel
theorem dX7_comer_68 : decode cX7_comer 68 = .ok (.getfield 19, 3) := by decide +kernel
theorem dX7_comer_71 : decode cX7_comer 71 = .ok (.iload_n 1, 1) := by decide +kernel
theorem dX7_comer_72 : decode cX7_comer 72 = .ok (.iaload, 1) := by decide +kernel
theorem dX7_comer_73 : decode cX7_comer 73 = .ok (.ireturn, 1) := by decide +kernel
theorem dX7_comer_74 : decode cX7_comer 74 = .ok (.aload_n 0, 1) := by decide +kernel
theorem dX7_comer_75 : decode cX7_comer 75 = .ok (.getfield 22, 3) := by decide +kernel
theorem dX7_comer_78 : decode cX7_comer 78 = .ok (.iload_n 1, 1) := by decide +kernel
theorem dX7_comer_79 : decode cX7_comer 79 = .ok (.iaload, 1) := by decide +kernel
theorem dX7_comer_80 : decode cX7_comer 80 = .ok (.ireturn, 1) := by decide +kernel
theorem dX7_comer_81 : decode cX7_comer 81 = .ok (.aload_n 0, 1) := by decide +kernel
theorem dX7_comer_82 : decode cX7_comer 82 = .ok (.getfield 25, 3) := by decide +kernel
theorem dX7_comer_85 : decode cX7_comer 85 = .ok (.iload_n 1, 1) := by decide +kernel
theorem dX7_comer_86 : decode cX7_comer 86 = .ok (.iaload, 1) := by decide +kernel
theorem dX7_comer_87 : decode cX7_comer 87 = .ok (.ireturn, 1) := by decide +kernel
theorem dX7_comer_88 : decode cX7_comer 88 = .ok (.aload_n 0, 1) := by decide +kernel
theorem dX7_comer_89 : decode cX7_comer 89 = .ok (.getfield 28, 3) := by decide +kernel
theorem dX7_comer_92 : decode cX7_comer 92 = .ok (.iload_n 1, 1) := by decide +kernel
theorem dX7_comer_93 : decode cX7_comer 93 = .ok (.iaload, 1) := by decide +kernel
theorem dX7_comer_94 : decode cX7_comer 94 = .ok (.ireturn, 1) := by decide +kernel
theorem dX7_comer_95 : decode cX7_comer 95 = .ok (.aload_n 0, 1) := by decide +kernel
theorem dX7_comer_96 : decode cX7_comer 96 = .ok (.getfield 31, 3) := by decide +kernel
theorem dX7_comer_99 : decode cX7_comer 99 = .ok (.iload_n 1, 1) := by decide +kernel
theorem dX7_comer_100 : decode cX7_comer 100 = .ok (.iaload, 1) := by decide +kernel
theorem dX7_comer_101 : decode cX7_comer 101 = .ok (.ireturn, 1) := by decide +kernel
theorem dX7_comer_102 : decode cX7_comer 102 = .ok (.aload_n 0, 1) := by decide +kernel
theorem dX7_comer_103 : decode cX7_comer 103 = .ok (.getfield 34, 3) := by decide +kernel
theorem dX7_comer_106 : decode cX7_comer 106 = .ok (.iload_n 1, 1) := by decide +kernel
theorem dX7_comer_107 : decode cX7_comer 107 = .ok (.iaload, 1) := by decide +kernel
theorem dX7_comer_108 : decode cX7_comer 108 = .ok (.ireturn, 1) := by decide +kernel
theorem dX7_comer_109 : decode cX7_comer 109 = .ok (.aload_n 0, 1) := by decide +kernel
theorem dX7_comer_110 : decode cX7_comer 110 = .ok (.iload_n 1, 1) := by decide +kernel
theorem dX7_comer_111 : decode cX7_comer 111 = .ok (.aload_n 0, 1) := by decide +kernel
theorem dX7_comer_112 : decode cX7_comer 112 = .ok (.getfield 16, 3) := by decide +kernel
theorem dX7_comer_115 : decode cX7_comer 115 = .ok (.iload_n 1, 1) := by decide +kernel
theorem dX7_comer_116 : decode cX7_comer 116 = .ok (.iaload, 1) := by decide +kernel
theorem dX7_comer_117 : decode cX7_comer 117 = .ok (.invokevirtual 175, 3) := by decide +kernel
theorem dX7_comer_120 : decode cX7_comer 120 = .ok (.ireturn, 1) := by decide +kernel
theorem dX7_comer_121 : decode cX7_comer 121 = .ok (.aload_n 0, 1) := by decide +kernel
theorem dX7_comer_122 : decode cX7_comer 122 = .ok (.bipush (-2), 2) := by decide +kernel
theorem dX7_comer_124 : decode cX7_comer 124 = .ok (.invokevirtual 88, 3) := by decide +kernel
theorem dX7_comer_127 : decode cX7_comer 127 = .ok (.ireturn, 1) := by decide +kernel
theorem dX7_kind_0 : decode cX7_kind 0 = .ok (.aload_n 0, 1) := by decide +kernel
theorem dX7_kind_1 : decode cX7_kind 1 = .ok (.iload_n 1, 1) := by decide +kernel
theorem dX7_kind_2 : decode cX7_kind 2 = .ok (.invokevirtual 132, 3) := by decide +kernel
theorem dX7_kind_5 : decode cX7_kind 5 = .ok (.ifCond .ne 7, 3) := by decide +kernel
theorem dX7_kind_8 : decode cX7_kind 8 = .ok (.iconst (-1), 1) := by decide +kernel
theorem dX7_kind_9 : decode cX7_kind 9 = .ok (.goto 25, 3) := by decide +kernel
theorem dX7_kind_12 : decode cX7_kind 12 = .ok (.iload_n 2, 1) := by decide +kernel
theorem dX7_kind_13 : decode cX7_kind 13 = .ok (.iconst 0, 1) := by decide +kernel
theorem dX7_kind_14 : decode cX7_kind 14 = .ok (.bipush 6, 2) := by decide +kernel
theorem dX7_kind_16 : decode cX7_kind 16 = .ok (.invokestatic 99, 3) := by decide +kernel
theorem dX7_kind_19 : decode cX7_kind 19 = .ok (.ifCond .ne 8, 3) := by decide +kernel
theorem dX7_kind_22 : decode cX7_kind 22 = .ok (.bipush (-2), 2) := by decide +kernel
theorem dX7_kind_24 : decode cX7_kind 24 = .ok (.goto 10, 3) := by decide +kernel
theorem dX7_kind_27 : decode cX7_kind 27 = .ok (.iload_n 3, 1) := by decide +kernel
theorem dX7_kind_28 : decode cX7_kind 28 = .ok (.iconst 0, 1) := by decide +kernel
theorem dX7_kind_29 : decode cX7_kind 29 = .ok (.bipush 9, 2) := by decide +kernel
theorem dX7_kind_31 : decode cX7_kind 31 = .ok (.invokestatic 81, 3) := by decide +kernel
theorem dX7_kind_34 : decode cX7_kind 34 = .ok (.istore 4, 2) := by decide +kernel
theorem dX7_kind_36 : decode cX7_kind 36 = .ok (.iload 4, 2) := by decide +kernel
theorem dX7_kind_38 : decode cX7_kind 38 = .ok (.ifCond .eq 10, 3) := by decide +kernel
theorem dX7_kind_41 : decode cX7_kind 41 = .ok (.aload_n 0, 1) := by decide +kernel
theorem dX7_kind_42 : decode cX7_kind 42 = .ok (.iload 4, 2) := by decide +kernel
theorem dX7_kind_44 : decode cX7_kind 44 = .ok (.invokevirtual 88, 3) := by decide +kernel
theorem dX7_kind_47 : decode cX7_kind 47 = .ok (.ireturn, 1) := by decide +kernel
theorem dX7_kind_48 : decode cX7_kind 48 = .ok (.bipush 10, 2) := by decide +kernel
theorem dX7_kind_50 : decode cX7_kind 50 = .ok (.aload_n 0, 1) := by decide +kernel
theorem dX7_kind_51 : decode cX7_kind 51 = .ok (.getfield 16, 3) := by decide +kernel
theorem dX7_kind_54 : decode cX7_kind 54 = .ok (.iload_n 1, 1) := by decide +kernel
theorem dX7_kind_55 : decode cX7_kind 55 = .ok (.iaload, 1) := by decide +kernel
theorem dX7_kind_56 : decode cX7_kind 56 = .ok (.imul, 1) := by decide +kernel
theorem dX7_kind_57 : decode cX7_kind 57 = .ok (.aload_n 0, 1) := by decide +kernel
theorem dX7_kind_58 : decode cX7_kind 58 = .ok (.getfield 19, 3) := by decide +kernel
theorem dX7_kind_61 : decode cX7_kind 61 = .ok (.iload_n 1, 1) := by decide +kernel
theorem dX7_kind_62 : decode cX7_kind 62 = .ok (.iaload, 1) := by decide +kernel
theorem dX7_kind_63 : decode cX7_kind 63 = .ok (.iadd, 1) := by decide +kernel
theorem dX7_kind_64 : decode cX7_kind 64 = .ok (.istore 5, 2) := by decide +kernel
theorem dX7_kind_66 : decode cX7_kind 66 = .ok (.aload_n 0, 1) := by decide +kernel
theorem dX7_kind_67 : decode cX7_kind 67 = .ok (.getfield 16, 3) := by decide +kernel
theorem dX7_kind_70 : decode cX7_kind 70 = .ok (.iload_n 1, 1) := by decide +kernel
theorem dX7_kind_71 : decode cX7_kind 71 = .ok (.iload_n 2, 1) := by decide +kernel
theorem dX7_kind_72 : decode cX7_kind 72 = .ok (.iastore, 1) := by decide +kernel
theorem dX7_kind_73 : decode cX7_kind 73 = .ok (.aload_n 0, 1) := by decide +kernel
theorem dX7_kind_74 : decode cX7_kind 74 = .ok (.getfield 19, 3) := by decide +kernel
theorem dX7_kind_77 : decode cX7_kind 77 = .ok (.iload_n 1, 1) := by decide +kernel
theorem dX7_kind_78 : decode cX7_kind 78 = .ok (.iload_n 3, 1) := by decide +kernel
theorem dX7_kind_79 : decode cX7_kind 79 = .ok (.iastore, 1) := by decide +kernel
theorem dX7_kind_80 : decode cX7_kind 80 = .ok (.iload 5, 2) := by decide +kernel
theorem dX7_kind_82 : decode cX7_kind 82 = .ok (.ireturn, 1) := by decide +kernel
theorem dX7_kettle_0 : decode cX7_kettle 0 = .ok (.iload_n 1, 1) := by decide +kernel
theorem dX7_kettle_1 : decode cX7_kettle 1 = .ok (.iconst 0, 1) := by decide +kernel
theorem dX7_kettle_2 : decode cX7_kettle 2 = .ok (.aload_n 0, 1) := by decide +kernel
theorem dX7_kettle_3 : decode cX7_kettle 3 = .ok (.getfield 13, 3) := by decide +kernel
theorem dX7_kettle_6 : decode cX7_kettle 6 = .ok (.bipush 7, 2) := by decide +kernel
theorem dX7_kettle_8 : decode cX7_kettle 8 = .ok (.iaload, 1) := by decide +kernel
theorem dX7_kettle_9 : decode cX7_kettle 9 = .ok (.iconst 1, 1) := by decide +kernel
theorem dX7_kettle_10 : decode cX7_kettle 10 = .ok (.isub, 1) := by decide +kernel
theorem dX7_kettle_11 : decode cX7_kettle 11 = .ok (.invokestatic 99, 3) := by decide +kernel
theorem dX7_kettle_14 : decode cX7_kettle 14 = .ok (.ifCond .ne 9, 3) := by decide +kernel
theorem dX7_kettle_17 : decode cX7_kettle 17 = .ok (.aload_n 0, 1) := by decide +kernel
theorem dX7_kettle_18 : decode cX7_kettle 18 = .ok (.iconst (-1), 1) := by decide +kernel
theorem dX7_kettle_19 : decode cX7_kettle 19 = .ok (.invokevirtual 88, 3) := by decide +kernel
theorem dX7_kettle_22 : decode cX7_kettle 22 = .ok (.ireturn, 1) := by decide +kernel
theorem dX7_kettle_23 : decode cX7_kettle 23 = .ok (.iload_n 2, 1) := by decide +kernel
theorem dX7_kettle_24 : decode cX7_kettle 24 = .ok (.tableswitch 77 0 3 #[32, 39, 46, 53], 32) := by decide +kernel
theorem dX7_kettle_56 : decode cX7_kettle 56 = .ok (.aload_n 0, 1) := by decide +kernel
theorem dX7_kettle_57 : decode cX7_kettle 57 = .ok (.getfield 40, 3) := by decide +kernel
theorem dX7_kettle_60 : decode cX7_kettle 60 = .ok (.iload_n 1, 1) := by decide +kernel
theorem dX7_kettle_61 : decode cX7_kettle 61 = .ok (.iaload, 1) := by decide +kernel
theorem dX7_kettle_62 : decode cX7_kettle 62 = .ok (.ireturn, 1) := by decide +kernel
theorem dX7_kettle_63 : decode cX7_kettle 63 = .ok (.aload_n 0, 1) := by decide +kernel
theorem dX7_kettle_64 : decode cX7_kettle 64 = .ok (.getfield 43, 3) := by decide +kernel
theorem dX7_kettle_67 : decode cX7_kettle 67 = .ok (.iload_n 1, 1) := by decide +kernel
theorem dX7_kettle_68 : decode cX7_kettle 68 = .ok (.iaload, 1) := by decide +kernel
theorem dX7_kettle_69 : decode cX7_kettle 69 = .ok (.ireturn, 1) := by decide +kernel
theorem dX7_kettle_70 : decode cX7_kettle 70 = .ok (.aload_n 0, 1) := by decide +kernel
theorem dX7_kettle_71 : decode cX7_kettle 71 = .ok (.getfield 46, 3) := by decide +kernel
theorem dX7_kettle_74 : decode cX7_kettle 74 = .ok (.iload_n 1, 1) := by decide +kernel
theorem dX7_kettle_75 : decode cX7_kettle 75 = .ok (.iaload, 1) := by decide +kernel
theorem dX7_kettle_76 : decode cX7_kettle 76 = .ok (.ireturn, 1) := by decide +kernel
theorem dX7_kettle_77 : decode cX7_kettle 77 = .ok (.aload_n 0, 1) := by decide +kernel
theorem dX7_kettle_78 : decode cX7_kettle 78 = .ok (.iload_n 1, 1) := by decide +kernel
theorem dX7_kettle_79 : decode cX7_kettle 79 = .ok (.invokevirtual 184, 3) := by decide +kernel
theorem dX7_kettle_82 : decode cX7_kettle 82 = .ok (.ifCond .eq 7, 3) := by decide +kernel
theorem dX7_kettle_85 : decode cX7_kettle 85 = .ok (.iconst 0, 1) := by decide +kernel
theorem dX7_kettle_86 : decode cX7_kettle 86 = .ok (.goto 14, 3) := by decide +kernel
theorem dX7_kettle_89 : decode cX7_kettle 89 = .ok (.aload_n 0, 1) := by decide +kernel
theorem dX7_kettle_90 : decode cX7_kettle 90 = .ok (.getfield 49, 3) := by decide +kernel
theorem dX7_kettle_93 : decode cX7_kettle 93 = .ok (.iload_n 1, 1) := by decide +kernel
theorem dX7_kettle_94 : decode cX7_kettle 94 = .ok (.iaload, 1) := by decide +kernel
theorem dX7_kettle_95 : decode cX7_kettle 95 = .ok (.aload_n 0, 1) := by decide +kernel
theorem dX7_kettle_96 : decode cX7_kettle 96 = .ok (.getfield 122, 3) := by decide +kernel
theorem dX7_kettle_99 : decode cX7_kettle 99 = .ok (.isub, 1) := by decide +kernel
theorem dX7_kettle_100 : decode cX7_kettle 100 = .ok (.ireturn, 1) := by decide +kernel
theorem dX7_kettle_101 : decode cX7_kettle 101 = .ok (.aload_n 0, 1) := by decide +kernel
theorem dX7_kettle_102 : decode cX7_kettle 102 = .ok (.bipush (-2), 2) := by decide +kernel
theorem dX7_kettle_104 : decode cX7_kettle 104 = .ok (.invokevirtual 88, 3) := by decide +kernel
theorem dX7_kettle_107 : decode cX7_kettle 107 = .ok (.ireturn, 1) := by decide +kernel
theorem dX7_set_0 : decode cX7_set 0 = .ok (.aload_n 0, 1) := by decide +kernel
theorem dX7_set_1 : decode cX7_set 1 = .ok (.iload_n 1, 1) := by decide +kernel
theorem dX7_set_2 : decode cX7_set 2 = .ok (.iload_n 2, 1) := by decide +kernel
theorem dX7_set_3 : decode cX7_set 3 = .ok (.invokevirtual 125, 3) := by decide +kernel
theorem dX7_set_6 : decode cX7_set 6 = .ok (.istore_n 3, 1) := by decide +kernel
theorem dX7_set_7 : decode cX7_set 7 = .ok (.iload_n 3, 1) := by decide +kernel
theorem dX7_set_8 : decode cX7_set 8 = .ok (.ifCond .eq 9, 3) := by decide +kernel
theorem dX7_set_11 : decode cX7_set 11 = .ok (.aload_n 0, 1) := by decide +kernel
theorem dX7_set_12 : decode cX7_set 12 = .ok (.iload_n 3, 1) := by decide +kernel
theorem dX7_set_13 : decode cX7_set 13 = .ok (.invokevirtual 88, 3) := by decide +kernel
theorem dX7_set_16 : decode cX7_set 16 = .ok (.ireturn, 1) := by decide +kernel
theorem dX7_set_17 : decode cX7_set 17 = .ok (.aload_n 0, 1) := by decide +kernel
theorem dX7_set_18 : decode cX7_set 18 = .ok (.getfield 13, 3) := by decide +kernel
theorem dX7_set_21 : decode cX7_set 21 = .ok (.iload_n 1, 1) := by decide +kernel
theorem dX7_set_22 : decode cX7_set 22 = .ok (.iaload, 1) := by decide +kernel
theorem dX7_set_23 : decode cX7_set 23 = .ok (.istore 4, 2) := by decide +kernel
theorem dX7_set_25 : decode cX7_set 25 = .ok (.aload_n 0, 1) := by decide +kernel
theorem dX7_set_26 : decode cX7_set 26 = .ok (.getfield 13, 3) := by decide +kernel
theorem dX7_set_29 : decode cX7_set 29 = .ok (.iload_n 1, 1) := by decide +kernel
theorem dX7_set_30 : decode cX7_set 30 = .ok (.iload_n 2, 1) := by decide +kernel
theorem dX7_set_31 : decode cX7_set 31 = .ok (.iastore, 1) := by decide +kernel
theorem dX7_set_32 : decode cX7_set 32 = .ok (.iload 4, 2) := by decide +kernel
theorem dX7_set_34 : decode cX7_set 34 = .ok (.ireturn, 1) := by decide +kernel
theorem dX7_go_0 : decode cX7_go 0 = .ok (.iload_n 1, 1) := by decide +kernel
theorem dX7_go_1 : decode cX7_go 1 = .ok (.iconst 1, 1) := by decide +kernel
theorem dX7_go_2 : decode cX7_go 2 = .ok (.bipush 60, 2) := by decide +kernel
theorem dX7_go_4 : decode cX7_go 4 = .ok (.invokestatic 81, 3) := by decide +kernel
theorem dX7_go_7 : decode cX7_go 7 = .ok (.istore_n 2, 1) := by decide +kernel
theorem dX7_go_8 : decode cX7_go 8 = .ok (.iload_n 2, 1) := by decide +kernel
theorem dX7_go_9 : decode cX7_go 9 = .ok (.ifCond .ne 13, 3) := by decide +kernel
theorem dX7_go_12 : decode cX7_go 12 = .ok (.aload_n 0, 1) := by decide +kernel
theorem dX7_go_13 : decode cX7_go 13 = .ok (.invokevirtual 207, 3) := by decide +kernel
theorem dX7_go_16 : decode cX7_go 16 = .ok (.ifCond .eq 6, 3) := by decide +kernel
theorem dX7_go_19 : decode cX7_go 19 = .ok (.bipush (-3), 2) := by decide +kernel
theorem dX7_go_21 : decode cX7_go 21 = .ok (.istore_n 2, 1) := by decide +kernel
theorem dX7_go_22 : decode cX7_go 22 = .ok (.iload_n 2, 1) := by decide +kernel
theorem dX7_go_23 : decode cX7_go 23 = .ok (.ifCond .eq 9, 3) := by decide +kernel
theorem dX7_go_26 : decode cX7_go 26 = .ok (.aload_n 0, 1) := by decide +kernel
theorem dX7_go_27 : decode cX7_go 27 = .ok (.iload_n 2, 1) := by decide +kernel
theorem dX7_go_28 : decode cX7_go 28 = .ok (.invokevirtual 88, 3) := by decide +kernel
theorem dX7_go_31 : decode cX7_go 31 = .ok (.ireturn, 1) := by decide +kernel
theorem dX7_go_32 : decode cX7_go 32 = .ok (.iconst 0, 1) := by decide +kernel
theorem dX7_go_33 : decode cX7_go 33 = .ok (.istore_n 3, 1) := by decide +kernel
theorem dX7_go_34 : decode cX7_go 34 = .ok (.iload_n 3, 1) := by decide +kernel
theorem dX7_go_35 : decode cX7_go 35 = .ok (.iload_n 1, 1) := by decide +kernel
theorem dX7_go_36 : decode cX7_go 36 = .ok (.if_icmp .ge 20, 3) := by decide +kernel
theorem dX7_go_39 : decode cX7_go 39 = .ok (.aload_n 0, 1) := by decide +kernel
theorem dX7_go_40 : decode cX7_go 40 = .ok (.invokevirtual 207, 3) := by decide +kernel
theorem dX7_go_43 : decode cX7_go 43 = .ok (.ifCond .ne 13, 3) := by decide +kernel
theorem dX7_go_46 : decode cX7_go 46 = .ok (.aload_n 0, 1) := by decide +kernel
theorem dX7_go_47 : decode cX7_go 47 = .ok (.invokevirtual 210, 3) := by decide +kernel
theorem dX7_go_50 : decode cX7_go 50 = .ok (.iinc 3 1, 3) := by decide +kernel
theorem dX7_go_53 : decode cX7_go 53 = .ok (.goto (-19), 3) := by decide +kernel
theorem dX7_go_56 : decode cX7_go 56 = .ok (.aload_n 0, 1) := by decide +kernel
theorem dX7_go_57 : decode cX7_go 57 = .ok (.getfield 122, 3) := by decide +kernel
theorem dX7_go_60 : decode cX7_go 60 = .ok (.ireturn, 1) := by decide +kernel
theorem dX7_anew_0 : decode cX7_anew 0 = .ok (.aload_n 0, 1) := by decide +kernel
theorem dX7_anew_1 : decode cX7_anew 1 = .ok (.getfield 122, 3) := by decide +kernel
theorem dX7_anew_4 : decode cX7_anew 4 = .ok (.istore_n 1, 1) := by decide +kernel
theorem dX7_anew_5 : decode cX7_anew 5 = .ok (.aload_n 0, 1) := by decide +kernel
theorem dX7_anew_6 : decode cX7_anew 6 = .ok (.invokevirtual 219, 3) := by decide +kernel
theorem dX7_anew_9 : decode cX7_anew 9 = .ok (.iload_n 1, 1) := by decide +kernel
theorem dX7_anew_10 : decode cX7_anew 10 = .ok (.ireturn, 1) := by decide +kernel
theorem dX7_line_0 : decode cX7_line 0 = .ok (.iload_n 1, 1) := by decide +kernel
theorem dX7_line_1 : decode cX7_line 1 = .ok (.ifCond .ge 10, 3) := by decide +kernel
theorem dX7_line_4 : decode cX7_line 4 = .ok (.aload_n 0, 1) := by decide +kernel
theorem dX7_line_5 : decode cX7_line 5 = .ok (.bipush (-4), 2) := by decide +kernel
theorem dX7_line_7 : decode cX7_line 7 = .ok (.invokevirtual 88, 3) := by decide +kernel
theorem dX7_line_10 : decode cX7_line 10 = .ok (.ireturn, 1) := by decide +kernel
theorem dX7_line_11 : decode cX7_line 11 = .ok (.iload_n 1, 1) := by decide +kernel
theorem dX7_line_12 : decode cX7_line 12 = .ok (.aload_n 0, 1) := by decide +kernel
theorem dX7_line_13 : decode cX7_line 13 = .ok (.getfield 160, 3) := by decide +kernel
theorem dX7_line_16 : decode cX7_line 16 = .ok (.if_icmp .ge 12, 3) := by decide +kernel
theorem dX7_line_19 : decode cX7_line 19 = .ok (.aload_n 0, 1) := by decide +kernel
theorem dX7_line_20 : decode cX7_line 20 = .ok (.getfield 37, 3) := by decide +kernel
theorem dX7_line_23 : decode cX7_line 23 = .ok (.iload_n 1, 1) := by decide +kernel
theorem dX7_line_24 : decode cX7_line 24 = .ok (.iaload, 1) := by decide +kernel
theorem dX7_line_25 : decode cX7_line 25 = .ok (.goto 5, 3) := by decide +kernel
theorem dX7_line_28 : decode cX7_line 28 = .ok (.bipush (-9), 2) := by decide +kernel
theorem dX7_line_30 : decode cX7_line 30 = .ok (.ireturn, 1) := by decide +kernel
theorem dX7_rest_0 : decode cX7_rest 0 = .ok (.iload_n 1, 1) := by decide +kernel
theorem dX7_rest_1 : decode cX7_rest 1 = .ok (.iconst 0, 1) := by decide +kernel
theorem dX7_rest_2 : decode cX7_rest 2 = .ok (.iconst 4, 1) := by decide +kernel
theorem dX7_rest_3 : decode cX7_rest 3 = .ok (.invokestatic 99, 3) := by decide +kernel
theorem dX7_rest_6 : decode cX7_rest 6 = .ok (.ifCond .ne 10, 3) := by decide +kernel
theorem dX7_rest_9 : decode cX7_rest 9 = .ok (.aload_n 0, 1) := by decide +kernel
theorem dX7_rest_10 : decode cX7_rest 10 = .ok (.bipush (-2), 2) := by decide +kernel
theorem dX7_rest_12 : decode cX7_rest 12 = .ok (.invokevirtual 88, 3) := by decide +kernel
theorem dX7_rest_15 : decode cX7_rest 15 = .ok (.ireturn, 1) := by decide +kernel
theorem dX7_rest_16 : decode cX7_rest 16 = .ok (.aload_n 0, 1) := by decide +kernel
theorem dX7_rest_17 : decode cX7_rest 17 = .ok (.iconst 1, 1) := by decide +kernel
theorem dX7_rest_18 : decode cX7_rest 18 = .ok (.iconst 1, 1) := by decide +kernel
theorem dX7_rest_19 : decode cX7_rest 19 = .ok (.invokevirtual 139, 3) := by decide +kernel
theorem dX7_rest_22 : decode cX7_rest 22 = .ok (.aload_n 0, 1) := by decide +kernel
theorem dX7_rest_23 : decode cX7_rest 23 = .ok (.invokevirtual 222, 3) := by decide +kernel
theorem dX7_rest_26 : decode cX7_rest 26 = .ok (.iload_n 1, 1) := by decide +kernel
theorem dX7_rest_27 : decode cX7_rest 27 = .ok (.ifCond .ne 10, 3) := by decide +kernel
theorem dX7_rest_30 : decode cX7_rest 30 = .ok (.aload_n 0, 1) := by decide +kernel
theorem dX7_rest_31 : decode cX7_rest 31 = .ok (.invokevirtual 213, 3) := by decide +kernel
theorem dX7_rest_34 : decode cX7_rest 34 = .ok (.goto 53, 3) := by decide +kernel
theorem dX7_rest_37 : decode cX7_rest 37 = .ok (.iload_n 1, 1) := by decide +kernel
theorem dX7_rest_38 : decode cX7_rest 38 = .ok (.iconst 1, 1) := by decide +kernel
theorem dX7_rest_39 : decode cX7_rest 39 = .ok (.if_icmp .ne 11, 3) := by decide +kernel
theorem dX7_rest_42 : decode cX7_rest 42 = .ok (.aload_n 0, 1) := by decide +kernel
theorem dX7_rest_43 : decode cX7_rest 43 = .ok (.iconst 3, 1) := by decide +kernel
theorem dX7_rest_44 : decode cX7_rest 44 = .ok (.invokevirtual 216, 3) := by decide +kernel
theorem dX7_rest_47 : decode cX7_rest 47 = .ok (.goto 40, 3) := by decide +kernel
theorem dX7_rest_50 : decode cX7_rest 50 = .ok (.iload_n 1, 1) := by decide +kernel
theorem dX7_rest_51 : decode cX7_rest 51 = .ok (.iconst 2, 1) := by decide +kernel
theorem dX7_rest_52 : decode cX7_rest 52 = .ok (.if_icmp .ne 10, 3) := by decide +kernel
theorem dX7_rest_55 : decode cX7_rest 55 = .ok (.aload_n 0, 1) := by decide +kernel
theorem dX7_rest_56 : decode cX7_rest 56 = .ok (.getfield 181, 3) := by decide +kernel
theorem dX7_rest_59 : decode cX7_rest 59 = .ok (.goto 28, 3) := by decide +kernel
theorem dX7_rest_62 : decode cX7_rest 62 = .ok (.iload_n 1, 1) := by decide +kernel
theorem dX7_rest_63 : decode cX7_rest 63 = .ok (.iconst 3, 1) := by decide +kernel
theorem dX7_rest_64 : decode cX7_rest 64 = .ok (.if_icmp .ne 19, 3) := by decide +kernel
theorem dX7_rest_67 : decode cX7_rest 67 = .ok (.aload_n 0, 1) := by decide +kernel
theorem dX7_rest_68 : decode cX7_rest 68 = .ok (.getfield 40, 3) := by decide +kernel
theorem dX7_rest_71 : decode cX7_rest 71 = .ok (.iconst 0, 1) := by decide +kernel
theorem dX7_rest_72 : decode cX7_rest 72 = .ok (.iaload, 1) := by decide +kernel
theorem dX7_rest_73 : decode cX7_rest 73 = .ok (.aload_n 0, 1) := by decide +kernel
theorem dX7_rest_74 : decode cX7_rest 74 = .ok (.getfield 40, 3) := by decide +kernel
theorem dX7_rest_77 : decode cX7_rest 77 = .ok (.iconst 1, 1) := by decide +kernel
theorem dX7_rest_78 : decode cX7_rest 78 = .ok (.iaload, 1) := by decide +kernel
theorem dX7_rest_79 : decode cX7_rest 79 = .ok (.iadd, 1) := by decide +kernel
theorem dX7_rest_80 : decode cX7_rest 80 = .ok (.goto 7, 3) := by decide +kernel
theorem dX7_rest_83 : decode cX7_rest 83 = .ok (.aload_n 0, 1) := by decide +kernel
theorem dX7_rest_84 : decode cX7_rest 84 = .ok (.invokevirtual 225, 3) := by decide +kernel
theorem dX7_rest_87 : decode cX7_rest 87 = .ok (.istore_n 2, 1) := by decide +kernel
theorem dX7_rest_88 : decode cX7_rest 88 = .ok (.aload_n 0, 1) := by decide +kernel
theorem dX7_rest_89 : decode cX7_rest 89 = .ok (.iconst 1, 1) := by decide +kernel
theorem dX7_rest_90 : decode cX7_rest 90 = .ok (.iconst 0, 1) := by decide +kernel
theorem dX7_rest_91 : decode cX7_rest 91 = .ok (.invokevirtual 139, 3) := by decide +kernel
theorem dX7_rest_94 : decode cX7_rest 94 = .ok (.iload_n 2, 1) := by decide +kernel
theorem dX7_rest_95 : decode cX7_rest 95 = .ok (.ireturn, 1) := by decide +kernel
theorem dX7_when_0 : decode cX7_when 0 = .ok (.aload_n 0, 1) := by decide +kernel
theorem dX7_when_1 : decode cX7_when 1 = .ok (.iload_n 1, 1) := by decide +kernel
theorem dX7_when_2 : decode cX7_when 2 = .ok (.invokevirtual 132, 3) := by decide +kernel
theorem dX7_when_5 : decode cX7_when 5 = .ok (.ifCond .ne 9, 3) := by decide +kernel
theorem dX7_when_8 : decode cX7_when 8 = .ok (.aload_n 0, 1) := by decide +kernel
theorem dX7_when_9 : decode cX7_when 9 = .ok (.iconst (-1), 1) := by decide +kernel
theorem dX7_when_10 : decode cX7_when 10 = .ok (.invokevirtual 88, 3) := by decide +kernel
theorem dX7_when_13 : decode cX7_when 13 = .ok (.ireturn, 1) := by decide +kernel
theorem dX7_when_14 : decode cX7_when 14 = .ok (.aload_n 0, 1) := by decide +kernel
theorem dX7_when_15 : decode cX7_when 15 = .ok (.iconst 1, 1) := by decide +kernel
theorem dX7_when_16 : decode cX7_when 16 = .ok (.iconst 1, 1) := by decide +kernel
theorem dX7_when_17 : decode cX7_when 17 = .ok (.invokevirtual 139, 3) := by decide +kernel
theorem dX7_when_20 : decode cX7_when 20 = .ok (.aload_n 0, 1) := by decide +kernel
theorem dX7_when_21 : decode cX7_when 21 = .ok (.invokevirtual 222, 3) := by decide +kernel
theorem dX7_when_24 : decode cX7_when 24 = .ok (.aload_n 0, 1) := by decide +kernel
theorem dX7_when_25 : decode cX7_when 25 = .ok (.getfield 31, 3) := by decide +kernel
theorem dX7_when_28 : decode cX7_when 28 = .ok (.iload_n 1, 1) := by decide +kernel
theorem dX7_when_29 : decode cX7_when 29 = .ok (.iaload, 1) := by decide +kernel
theorem dX7_when_30 : decode cX7_when 30 = .ok (.iconst 2, 1) := by decide +kernel
theorem dX7_when_31 : decode cX7_when 31 = .ok (.if_icmp .ne 19, 3) := by decide +kernel
theorem dX7_when_34 : decode cX7_when 34 = .ok (.aload_n 0, 1) := by decide +kernel
theorem dX7_when_35 : decode cX7_when 35 = .ok (.getfield 22, 3) := by decide +kernel
theorem dX7_when_38 : decode cX7_when 38 = .ok (.iload_n 1, 1) := by decide +kernel
theorem dX7_when_39 : decode cX7_when 39 = .ok (.iaload, 1) := by decide +kernel
theorem dX7_when_40 : decode cX7_when 40 = .ok (.aload_n 0, 1) := by decide +kernel
theorem dX7_when_41 : decode cX7_when 41 = .ok (.getfield 34, 3) := by decide +kernel
theorem dX7_when_44 : decode cX7_when 44 = .ok (.iload_n 1, 1) := by decide +kernel
theorem dX7_when_45 : decode cX7_when 45 = .ok (.iaload, 1) := by decide +kernel
theorem dX7_when_46 : decode cX7_when 46 = .ok (.iadd, 1) := by decide +kernel
theorem dX7_when_47 : decode cX7_when 47 = .ok (.goto 5, 3) := by decide +kernel
theorem dX7_when_50 : decode cX7_when 50 = .ok (.bipush (-9), 2) := by decide +kernel
theorem dX7_when_52 : decode cX7_when 52 = .ok (.istore_n 2, 1) := by decide +kernel
theorem dX7_when_53 : decode cX7_when 53 = .ok (.aload_n 0, 1) := by decide +kernel
theorem dX7_when_54 : decode cX7_when 54 = .ok (.iconst 1, 1) := by decide +kernel
theorem dX7_when_55 : decode cX7_when 55 = .ok (.iconst 0, 1) := by decide +kernel
theorem dX7_when_56 : decode cX7_when 56 = .ok (.invokevirtual 139, 3) := by decide +kernel
theorem dX7_when_59 : decode cX7_when 59 = .ok (.iload_n 2, 1) := by decide +kernel
theorem dX7_when_60 : decode cX7_when 60 = .ok (.ireturn, 1) := by decide +kernel
theorem dX7_bestKind_0 : decode cX7_bestKind 0 = .ok (.aload_n 0, 1) := by decide +kernel
theorem dX7_bestKind_1 : decode cX7_bestKind 1 = .ok (.getfield 16, 3) := by decide +kernel
theorem dX7_bestKind_4 : decode cX7_bestKind 4 = .ok (.iload_n 1, 1) := by decide +kernel
theorem dX7_bestKind_5 : decode cX7_bestKind 5 = .ok (.iaload, 1) := by decide +kernel
theorem dX7_bestKind_6 : decode cX7_bestKind 6 = .ok (.istore_n 3, 1) := by decide +kernel
theorem dX7_bestKind_7 : decode cX7_bestKind 7 = .ok (.iconst 0, 1) := by decide +kernel
theorem dX7_bestKind_8 : decode cX7_bestKind 8 = .ok (.istore 4, 2) := by decide +kernel
theorem dX7_bestKind_10 : decode cX7_bestKind 10 = .ok (.ldc 76, 2) := by decide +kernel
theorem dX7_bestKind_12 : decode cX7_bestKind 12 = .ok (.istore 5, 2) := by decide +kernel
theorem dX7_bestKind_14 : decode cX7_bestKind 14 = .ok (.iconst 0, 1) := by decide +kernel
theorem dX7_bestKind_15 : decode cX7_bestKind 15 = .ok (.istore 6, 2) := by decide +kernel
theorem dX7_bestKind_17 : decode cX7_bestKind 17 = .ok (.iload 6, 2) := by decide +kernel
theorem dX7_bestKind_19 : decode cX7_bestKind 19 = .ok (.bipush 7, 2) := by decide +kernel
theorem dX7_bestKind_21 : decode cX7_bestKind 21 = .ok (.if_icmp .ge 68, 3) := by decide +kernel
theorem dX7_bestKind_24 : decode cX7_bestKind 24 = .ok (.aload_n 0, 1) := by decide +kernel
theorem dX7_bestKind_25 : decode cX7_bestKind 25 = .ok (.getfield 16, 3) := by decide +kernel
theorem dX7_bestKind_28 : decode cX7_bestKind 28 = .ok (.iload_n 1, 1) := by decide +kernel
theorem dX7_bestKind_29 : decode cX7_bestKind 29 = .ok (.iload 6, 2) := by decide +kernel
theorem dX7_bestKind_31 : decode cX7_bestKind 31 = .ok (.iastore, 1) := by decide +kernel
theorem dX7_bestKind_32 : decode cX7_bestKind 32 = .ok (.aload_n 0, 1) := by decide +kernel
theorem dX7_bestKind_33 : decode cX7_bestKind 33 = .ok (.invokevirtual 228, 3) := by decide +kernel
theorem dX7_bestKind_36 : decode cX7_bestKind 36 = .ok (.istore 7, 2) := by decide +kernel
theorem dX7_bestKind_38 : decode cX7_bestKind 38 = .ok (.iload_n 2, 1) := by decide +kernel
theorem dX7_bestKind_39 : decode cX7_bestKind 39 = .ok (.ifCond .ne 26, 3) := by decide +kernel
theorem dX7_bestKind_42 : decode cX7_bestKind 42 = .ok (.aload_n 0, 1) := by decide +kernel
theorem dX7_bestKind_43 : decode cX7_bestKind 43 = .ok (.getfield 31, 3) := by decide +kernel
theorem dX7_bestKind_46 : decode cX7_bestKind 46 = .ok (.iload_n 1, 1) := by decide +kernel
theorem dX7_bestKind_47 : decode cX7_bestKind 47 = .ok (.iaload, 1) := by decide +kernel
theorem dX7_bestKind_48 : decode cX7_bestKind 48 = .ok (.iconst 2, 1) := by decide +kernel
theorem dX7_bestKind_49 : decode cX7_bestKind 49 = .ok (.if_icmp .ne 12, 3) := by decide +kernel
theorem dX7_bestKind_52 : decode cX7_bestKind 52 = .ok (.aload_n 0, 1) := by decide +kernel
theorem dX7_bestKind_53 : decode cX7_bestKind 53 = .ok (.getfield 34, 3) := by decide +kernel
theorem dX7_bestKind_56 : decode cX7_bestKind 56 = .ok (.iload_n 1, 1) := by decide +kernel
theorem dX7_bestKind_57 : decode cX7_bestKind 57 = .ok (.iaload, 1) := by decide +kernel
theorem dX7_bestKind_58 : decode cX7_bestKind 58 = .ok (.goto 5, 3) := by decide +kernel
theorem dX7_bestKind_61 : decode cX7_bestKind 61 = .ok (.bipush 99, 2) := by decide +kernel
theorem dX7_bestKind_63 : decode cX7_bestKind 63 = .ok (.istore 7, 2) := by decide +kernel
theorem dX7_bestKind_65 : decode cX7_bestKind 65 = .ok (.iload 7, 2) := by decide +kernel
theorem dX7_bestKind_67 : decode cX7_bestKind 67 = .ok (.iload 5, 2) := by decide +kernel
theorem dX7_bestKind_69 : decode cX7_bestKind 69 = .ok (.if_icmp .lt 6, 3) := by decide +kernel
theorem dX7_bestKind_72 : decode cX7_bestKind 72 = .ok (.goto 11, 3) := by decide +kernel
theorem dX7_bestKind_75 : decode cX7_bestKind 75 = .ok (.iload 6, 2) := by decide +kernel
theorem dX7_bestKind_77 : decode cX7_bestKind 77 = .ok (.istore 4, 2) := by decide +kernel
theorem dX7_bestKind_79 : decode cX7_bestKind 79 = .ok (.iload 7, 2) := by decide +kernel
theorem dX7_bestKind_81 : decode cX7_bestKind 81 = .ok (.istore 5, 2) := by decide +kernel
theorem dX7_bestKind_83 : decode cX7_bestKind 83 = .ok (.iinc 6 1, 3) := by decide +kernel
theorem dX7_bestKind_86 : decode cX7_bestKind 86 = .ok (.goto (-69), 3) := by decide +kernel
theorem dX7_bestKind_89 : decode cX7_bestKind 89 = .ok (.aload_n 0, 1) := by decide +kernel
theorem dX7_bestKind_90 : decode cX7_bestKind 90 = .ok (.getfield 16, 3) := by decide +kernel
theorem dX7_bestKind_93 : decode cX7_bestKind 93 = .ok (.iload_n 1, 1) := by decide +kernel
theorem dX7_bestKind_94 : decode cX7_bestKind 94 = .ok (.iload_n 3, 1) := by decide +kernel
theorem dX7_bestKind_95 : decode cX7_bestKind 95 = .ok (.iastore, 1) := by decide +kernel
theorem dX7_bestKind_96 : decode cX7_bestKind 96 = .ok (.iload 4, 2) := by decide +kernel
theorem dX7_bestKind_98 : decode cX7_bestKind 98 = .ok (.ireturn, 1) := by decide +kernel
theorem dX7_best_0 : decode cX7_best 0 = .ok (.aload_n 0, 1) := by decide +kernel
theorem dX7_best_1 : decode cX7_best 1 = .ok (.iload_n 1, 1) := by decide +kernel
theorem dX7_best_2 : decode cX7_best 2 = .ok (.invokevirtual 132, 3) := by decide +kernel
theorem dX7_best_5 : decode cX7_best 5 = .ok (.ifCond .ne 9, 3) := by decide +kernel
theorem dX7_best_8 : decode cX7_best 8 = .ok (.aload_n 0, 1) := by decide +kernel
theorem dX7_best_9 : decode cX7_best 9 = .ok (.iconst (-1), 1) := by decide +kernel
theorem dX7_best_10 : decode cX7_best 10 = .ok (.invokevirtual 88, 3) := by decide +kernel
theorem dX7_best_13 : decode cX7_best 13 = .ok (.ireturn, 1) := by decide +kernel
theorem dX7_best_14 : decode cX7_best 14 = .ok (.iload_n 2, 1) := by decide +kernel
theorem dX7_best_15 : decode cX7_best 15 = .ok (.iconst 0, 1) := by decide +kernel
theorem dX7_best_16 : decode cX7_best 16 = .ok (.iconst 1, 1) := by decide +kernel
theorem dX7_best_17 : decode cX7_best 17 = .ok (.invokestatic 99, 3) := by decide +kernel
theorem dX7_best_20 : decode cX7_best 20 = .ok (.ifCond .ne 10, 3) := by decide +kernel
theorem dX7_best_23 : decode cX7_best 23 = .ok (.aload_n 0, 1) := by decide +kernel
theorem dX7_best_24 : decode cX7_best 24 = .ok (.bipush (-2), 2) := by decide +kernel
theorem dX7_best_26 : decode cX7_best 26 = .ok (.invokevirtual 88, 3) := by decide +kernel
theorem dX7_best_29 : decode cX7_best 29 = .ok (.ireturn, 1) := by decide +kernel
theorem dX7_best_30 : decode cX7_best 30 = .ok (.aload_n 0, 1) := by decide +kernel
theorem dX7_best_31 : decode cX7_best 31 = .ok (.iconst 1, 1) := by decide +kernel
theorem dX7_best_32 : decode cX7_best 32 = .ok (.iconst 1, 1) := by decide +kernel
theorem dX7_best_33 : decode cX7_best 33 = .ok (.invokevirtual 139, 3) := by decide +kernel
theorem dX7_best_36 : decode cX7_best 36 = .ok (.aload_n 0, 1) := by decide +kernel
theorem dX7_best_37 : decode cX7_best 37 = .ok (.iload_n 1, 1) := by decide +kernel
theorem dX7_best_38 : decode cX7_best 38 = .ok (.iload_n 2, 1) := by decide +kernel
theorem dX7_best_39 : decode cX7_best 39 = .ok (.invokevirtual 231, 3) := by decide +kernel
theorem dX7_best_42 : decode cX7_best 42 = .ok (.istore_n 3, 1) := by decide +kernel
theorem dX7_best_43 : decode cX7_best 43 = .ok (.aload_n 0, 1) := by decide +kernel
theorem dX7_best_44 : decode cX7_best 44 = .ok (.iconst 1, 1) := by decide +kernel
theorem dX7_best_45 : decode cX7_best 45 = .ok (.iconst 0, 1) := by decide +kernel
theorem dX7_best_46 : decode cX7_best 46 = .ok (.invokevirtual 139, 3) := by decide +kernel
theorem dX7_best_49 : decode cX7_best 49 = .ok (.iload_n 3, 1) := by decide +kernel
theorem dX7_best_50 : decode cX7_best 50 = .ok (.ireturn, 1) := by decide +kernel
theorem dX7_goesRounds_0 : decode cX7_goesRounds 0 = .ok (.iconst 0, 1) := by decide +kernel
theorem dX7_goesRounds_1 : decode cX7_goesRounds 1 = .ok (.istore_n 1, 1) := by decide +kernel
theorem dX7_goesRounds_2 : decode cX7_goesRounds 2 = .ok (.iconst 1, 1) := by decide +kernel
theorem dX7_goesRounds_3 : decode cX7_goesRounds 3 = .ok (.istore_n 2, 1) := by decide +kernel
theorem dX7_goesRounds_4 : decode cX7_goesRounds 4 = .ok (.iload_n 2, 1) := by decide +kernel
theorem dX7_goesRounds_5 : decode cX7_goesRounds 5 = .ok (.ifCond .eq 68, 3) := by decide +kernel
theorem dX7_goesRounds_8 : decode cX7_goesRounds 8 = .ok (.iload_n 1, 1) := by decide +kernel
theorem dX7_goesRounds_9 : decode cX7_goesRounds 9 = .ok (.bipush 20, 2) := by decide +kernel
theorem dX7_goesRounds_11 : decode cX7_goesRounds 11 = .ok (.if_icmp .ge 62, 3) := by decide +kernel
theorem dX7_goesRounds_14 : decode cX7_goesRounds 14 = .ok (.iconst 0, 1) := by decide +kernel
theorem dX7_goesRounds_15 : decode cX7_goesRounds 15 = .ok (.istore_n 2, 1) := by decide +kernel
theorem dX7_goesRounds_16 : decode cX7_goesRounds 16 = .ok (.iconst 0, 1) := by decide +kernel
theorem dX7_goesRounds_17 : decode cX7_goesRounds 17 = .ok (.istore_n 3, 1) := by decide +kernel
theorem dX7_goesRounds_18 : decode cX7_goesRounds 18 = .ok (.iload_n 3, 1) := by decide +kernel
theorem dX7_goesRounds_19 : decode cX7_goesRounds 19 = .ok (.aload_n 0, 1) := by decide +kernel
theorem dX7_goesRounds_20 : decode cX7_goesRounds 20 = .ok (.getfield 77, 3) := by decide +kernel
theorem dX7_goesRounds_23 : decode cX7_goesRounds 23 = .ok (.if_icmp .ge 44, 3) := by decide +kernel
theorem dX7_goesRounds_26 : decode cX7_goesRounds 26 = .ok (.aload_n 0, 1) := by decide +kernel
theorem dX7_goesRounds_27 : decode cX7_goesRounds 27 = .ok (.iload_n 3, 1) := by decide +kernel
theorem dX7_goesRounds_28 : decode cX7_goesRounds 28 = .ok (.iconst 0, 1) := by decide +kernel
theorem dX7_goesRounds_29 : decode cX7_goesRounds 29 = .ok (.invokevirtual 231, 3) := by decide +kernel
theorem dX7_goesRounds_32 : decode cX7_goesRounds 32 = .ok (.istore 4, 2) := by decide +kernel
theorem dX7_goesRounds_34 : decode cX7_goesRounds 34 = .ok (.iload_n 2, 1) := by decide +kernel
theorem dX7_goesRounds_35 : decode cX7_goesRounds 35 = .ok (.iload 4, 2) := by decide +kernel
theorem dX7_goesRounds_37 : decode cX7_goesRounds 37 = .ok (.aload_n 0, 1) := by decide +kernel
theorem dX7_goesRounds_38 : decode cX7_goesRounds 38 = .ok (.getfield 16, 3) := by decide +kernel
theorem dX7_goesRounds_41 : decode cX7_goesRounds 41 = .ok (.iload_n 3, 1) := by decide +kernel
theorem dX7_goesRounds_42 : decode cX7_goesRounds 42 = .ok (.iaload, 1) := by decide +kernel
theorem dX7_goesRounds_43 : decode cX7_goesRounds 43 = .ok (.if_icmp .eq 7, 3) := by decide +kernel
theorem dX7_goesRounds_46 : decode cX7_goesRounds 46 = .ok (.iconst 1, 1) := by decide +kernel
theorem dX7_goesRounds_47 : decode cX7_goesRounds 47 = .ok (.goto 4, 3) := by decide +kernel
theorem dX7_goesRounds_50 : decode cX7_goesRounds 50 = .ok (.iconst 0, 1) := by decide +kernel
theorem dX7_goesRounds_51 : decode cX7_goesRounds 51 = .ok (.ior, 1) := by decide +kernel
theorem dX7_goesRounds_52 : decode cX7_goesRounds 52 = .ok (.istore_n 2, 1) := by decide +kernel
theorem dX7_goesRounds_53 : decode cX7_goesRounds 53 = .ok (.aload_n 0, 1) := by decide +kernel
theorem dX7_goesRounds_54 : decode cX7_goesRounds 54 = .ok (.getfield 16, 3) := by decide +kernel
theorem dX7_goesRounds_57 : decode cX7_goesRounds 57 = .ok (.iload_n 3, 1) := by decide +kernel
theorem dX7_goesRounds_58 : decode cX7_goesRounds 58 = .ok (.iload 4, 2) := by decide +kernel
theorem dX7_goesRounds_60 : decode cX7_goesRounds 60 = .ok (.iastore, 1) := by decide +kernel
theorem dX7_goesRounds_61 : decode cX7_goesRounds 61 = .ok (.iinc 3 1, 3) := by decide +kernel
theorem dX7_goesRounds_64 : decode cX7_goesRounds 64 = .ok (.goto (-46), 3) := by decide +kernel
theorem dX7_goesRounds_67 : decode cX7_goesRounds 67 = .ok (.iinc 1 1, 3) := by decide +kernel
theorem dX7_goesRounds_70 : decode cX7_goesRounds 70 = .ok (.goto (-66), 3) := by decide +kernel
theorem dX7_goesRounds_73 : decode cX7_goesRounds 73 = .ok (.iload_n 1, 1) := by decide +kernel
theorem dX7_goesRounds_74 : decode cX7_goesRounds 74 = .ok (.ireturn, 1) := by decide +kernel
theorem dX7_kindsDigits_0 : decode cX7_kindsDigits 0 = .ok (.iconst 0, 1) := by decide +kernel
theorem dX7_kindsDigits_1 : decode cX7_kindsDigits 1 = .ok (.istore_n 1, 1) := by decide +kernel
theorem dX7_kindsDigits_2 : decode cX7_kindsDigits 2 = .ok (.aload_n 0, 1) := by decide +kernel
theorem dX7_kindsDigits_3 : decode cX7_kindsDigits 3 = .ok (.getfield 77, 3) := by decide +kernel
theorem dX7_kindsDigits_6 : decode cX7_kindsDigits 6 = .ok (.iconst 1, 1) := by decide +kernel
theorem dX7_kindsDigits_7 : decode cX7_kindsDigits 7 = .ok (.isub, 1) := by decide +kernel
theorem dX7_kindsDigits_8 : decode cX7_kindsDigits 8 = .ok (.istore_n 2, 1) := by decide +kernel
theorem dX7_kindsDigits_9 : decode cX7_kindsDigits 9 = .ok (.iload_n 2, 1) := by decide +kernel
theorem dX7_kindsDigits_10 : decode cX7_kindsDigits 10 = .ok (.ifCond .lt 21, 3) := by decide +kernel
theorem dX7_kindsDigits_13 : decode cX7_kindsDigits 13 = .ok (.bipush 10, 2) := by decide +kernel
theorem dX7_kindsDigits_15 : decode cX7_kindsDigits 15 = .ok (.iload_n 1, 1) := by decide +kernel
theorem dX7_kindsDigits_16 : decode cX7_kindsDigits 16 = .ok (.imul, 1) := by decide +kernel
theorem dX7_kindsDigits_17 : decode cX7_kindsDigits 17 = .ok (.aload_n 0, 1) := by decide +kernel
theorem dX7_kindsDigits_18 : decode cX7_kindsDigits 18 = .ok (.getfield 16, 3) := by decide +kernel
theorem dX7_kindsDigits_21 : decode cX7_kindsDigits 21 = .ok (.iload_n 2, 1) := by decide +kernel
theorem dX7_kindsDigits_22 : decode cX7_kindsDigits 22 = .ok (.iaload, 1) := by decide +kernel
theorem dX7_kindsDigits_23 : decode cX7_kindsDigits 23 = .ok (.iadd, 1) := by decide +kernel
theorem dX7_kindsDigits_24 : decode cX7_kindsDigits 24 = .ok (.istore_n 1, 1) := by decide +kernel
theorem dX7_kindsDigits_25 : decode cX7_kindsDigits 25 = .ok (.iinc 2 (-1), 3) := by decide +kernel
theorem dX7_kindsDigits_28 : decode cX7_kindsDigits 28 = .ok (.goto (-19), 3) := by decide +kernel
theorem dX7_kindsDigits_31 : decode cX7_kindsDigits 31 = .ok (.iload_n 1, 1) := by decide +kernel
theorem dX7_kindsDigits_32 : decode cX7_kindsDigits 32 = .ok (.ireturn, 1) := by decide +kernel
theorem dX7_leastOfOneKind_0 : decode cX7_leastOfOneKind 0 = .ok (.ldc 76, 2) := by decide +kernel
theorem dX7_leastOfOneKind_2 : decode cX7_leastOfOneKind 2 = .ok (.istore_n 1, 1) := by decide +kernel
theorem dX7_leastOfOneKind_3 : decode cX7_leastOfOneKind 3 = .ok (.iconst 0, 1) := by decide +kernel
theorem dX7_leastOfOneKind_4 : decode cX7_leastOfOneKind 4 = .ok (.istore_n 2, 1) := by decide +kernel
theorem dX7_leastOfOneKind_5 : decode cX7_leastOfOneKind 5 = .ok (.iload_n 2, 1) := by decide +kernel
theorem dX7_leastOfOneKind_6 : decode cX7_leastOfOneKind 6 = .ok (.bipush 7, 2) := by decide +kernel
theorem dX7_leastOfOneKind_8 : decode cX7_leastOfOneKind 8 = .ok (.if_icmp .ge 48, 3) := by decide +kernel
theorem dX7_leastOfOneKind_11 : decode cX7_leastOfOneKind 11 = .ok (.iconst 0, 1) := by decide +kernel
theorem dX7_leastOfOneKind_12 : decode cX7_leastOfOneKind 12 = .ok (.istore_n 3, 1) := by decide +kernel
theorem dX7_leastOfOneKind_13 : decode cX7_leastOfOneKind 13 = .ok (.iload_n 3, 1) := by decide +kernel
theorem dX7_leastOfOneKind_14 : decode cX7_leastOfOneKind 14 = .ok (.aload_n 0, 1) := by decide +kernel
theorem dX7_leastOfOneKind_15 : decode cX7_leastOfOneKind 15 = .ok (.getfield 77, 3) := by decide +kernel
theorem dX7_leastOfOneKind_18 : decode cX7_leastOfOneKind 18 = .ok (.if_icmp .ge 16, 3) := by decide +kernel
theorem dX7_leastOfOneKind_21 : decode cX7_leastOfOneKind 21 = .ok (.aload_n 0, 1) := by decide +kernel
theorem dX7_leastOfOneKind_22 : decode cX7_leastOfOneKind 22 = .ok (.getfield 16, 3) := by decide +kernel
theorem dX7_leastOfOneKind_25 : decode cX7_leastOfOneKind 25 = .ok (.iload_n 3, 1) := by decide +kernel
end
section
theorem dX7_leastOfOneKind_26 : decode cX7_leastOfOneKind 26 = .ok (.iload_n 2, 1) := by decide +kernel
theorem dX7_leastOfOneKind_27 : decode cX7_leastOfOneKind 27 = .ok (.iastore, 1) := by decide +kernel
theorem dX7_leastOfOneKind_28 : decode cX7_leastOfOneKind 28 = .ok (.iinc 3 1, 3) := by decide +kernel
theorem dX7_leastOfOneKind_31 : decode cX7_leastOfOneKind 31 = .ok (.goto (-18), 3) := by decide +kernel
theorem dX7_leastOfOneKind_34 : decode cX7_leastOfOneKind 34 = .ok (.aload_n 0, 1) := by decide +kernel
theorem dX7_leastOfOneKind_35 : decode cX7_leastOfOneKind 35 = .ok (.invokevirtual 228, 3) := by decide +kernel
theorem dX7_leastOfOneKind_38 : decode cX7_leastOfOneKind 38 = .ok (.istore_n 3, 1) := by decide +kernel
theorem dX7_leastOfOneKind_39 : decode cX7_leastOfOneKind 39 = .ok (.iload_n 3, 1) := by decide +kernel
theorem dX7_leastOfOneKind_40 : decode cX7_leastOfOneKind 40 = .ok (.iload_n 1, 1) := by decide +kernel
theorem dX7_leastOfOneKind_41 : decode cX7_leastOfOneKind 41 = .ok (.if_icmp .ge 7, 3) := by decide +kernel
theorem dX7_leastOfOneKind_44 : decode cX7_leastOfOneKind 44 = .ok (.iload_n 3, 1) := by decide +kernel
theorem dX7_leastOfOneKind_45 : decode cX7_leastOfOneKind 45 = .ok (.goto 4, 3) := by decide +kernel
theorem dX7_leastOfOneKind_48 : decode cX7_leastOfOneKind 48 = .ok (.iload_n 1, 1) := by decide +kernel
theorem dX7_leastOfOneKind_49 : decode cX7_leastOfOneKind 49 = .ok (.istore_n 1, 1) := by decide +kernel
theorem dX7_leastOfOneKind_50 : decode cX7_leastOfOneKind 50 = .ok (.iinc 2 1, 3) := by decide +kernel
theorem dX7_leastOfOneKind_53 : decode cX7_leastOfOneKind 53 = .ok (.goto (-48), 3) := by decide +kernel
theorem dX7_leastOfOneKind_56 : decode cX7_leastOfOneKind 56 = .ok (.iload_n 1, 1) := by decide +kernel
theorem dX7_leastOfOneKind_57 : decode cX7_leastOfOneKind 57 = .ok (.ireturn, 1) := by decide +kernel
theorem dX7_rounds_0 : decode cX7_rounds 0 = .ok (.iload_n 1, 1) := by decide +kernel
theorem dX7_rounds_1 : decode cX7_rounds 1 = .ok (.iconst 0, 1) := by decide +kernel
theorem dX7_rounds_2 : decode cX7_rounds 2 = .ok (.iconst 3, 1) := by decide +kernel
theorem dX7_rounds_3 : decode cX7_rounds 3 = .ok (.invokestatic 99, 3) := by decide +kernel
theorem dX7_rounds_6 : decode cX7_rounds 6 = .ok (.ifCond .ne 10, 3) := by decide +kernel
theorem dX7_rounds_9 : decode cX7_rounds 9 = .ok (.aload_n 0, 1) := by decide +kernel
theorem dX7_rounds_10 : decode cX7_rounds 10 = .ok (.bipush (-2), 2) := by decide +kernel
theorem dX7_rounds_12 : decode cX7_rounds 12 = .ok (.invokevirtual 234, 3) := by decide +kernel
theorem dX7_rounds_15 : decode cX7_rounds 15 = .ok (.ireturn, 1) := by decide +kernel
theorem dX7_rounds_16 : decode cX7_rounds 16 = .ok (.aload_n 0, 1) := by decide +kernel
theorem dX7_rounds_17 : decode cX7_rounds 17 = .ok (.iconst 1, 1) := by decide +kernel
theorem dX7_rounds_18 : decode cX7_rounds 18 = .ok (.iconst 1, 1) := by decide +kernel
theorem dX7_rounds_19 : decode cX7_rounds 19 = .ok (.invokevirtual 139, 3) := by decide +kernel
theorem dX7_rounds_22 : decode cX7_rounds 22 = .ok (.aload_n 0, 1) := by decide +kernel
theorem dX7_rounds_23 : decode cX7_rounds 23 = .ok (.invokevirtual 237, 3) := by decide +kernel
theorem dX7_rounds_26 : decode cX7_rounds 26 = .ok (.istore_n 2, 1) := by decide +kernel
theorem dX7_rounds_27 : decode cX7_rounds 27 = .ok (.iload_n 1, 1) := by decide +kernel
theorem dX7_rounds_28 : decode cX7_rounds 28 = .ok (.iconst 1, 1) := by decide +kernel
theorem dX7_rounds_29 : decode cX7_rounds 29 = .ok (.if_icmp .ne 8, 3) := by decide +kernel
theorem dX7_rounds_32 : decode cX7_rounds 32 = .ok (.aload_n 0, 1) := by decide +kernel
theorem dX7_rounds_33 : decode cX7_rounds 33 = .ok (.invokevirtual 240, 3) := by decide +kernel
theorem dX7_rounds_36 : decode cX7_rounds 36 = .ok (.istore_n 2, 1) := by decide +kernel
theorem dX7_rounds_37 : decode cX7_rounds 37 = .ok (.iload_n 1, 1) := by decide +kernel
theorem dX7_rounds_38 : decode cX7_rounds 38 = .ok (.iconst 1, 1) := by decide +kernel
theorem dX7_rounds_39 : decode cX7_rounds 39 = .ok (.if_icmp .le 8, 3) := by decide +kernel
theorem dX7_rounds_42 : decode cX7_rounds 42 = .ok (.aload_n 0, 1) := by decide +kernel
theorem dX7_rounds_43 : decode cX7_rounds 43 = .ok (.invokevirtual 228, 3) := by decide +kernel
theorem dX7_rounds_46 : decode cX7_rounds 46 = .ok (.istore_n 2, 1) := by decide +kernel
theorem dX7_rounds_47 : decode cX7_rounds 47 = .ok (.iload_n 1, 1) := by decide +kernel
theorem dX7_rounds_48 : decode cX7_rounds 48 = .ok (.iconst 3, 1) := by decide +kernel
theorem dX7_rounds_49 : decode cX7_rounds 49 = .ok (.if_icmp .ne 10, 3) := by decide +kernel
theorem dX7_rounds_52 : decode cX7_rounds 52 = .ok (.iload_n 2, 1) := by decide +kernel
theorem dX7_rounds_53 : decode cX7_rounds 53 = .ok (.aload_n 0, 1) := by decide +kernel
theorem dX7_rounds_54 : decode cX7_rounds 54 = .ok (.invokevirtual 243, 3) := by decide +kernel
theorem dX7_rounds_57 : decode cX7_rounds 57 = .ok (.isub, 1) := by decide +kernel
theorem dX7_rounds_58 : decode cX7_rounds 58 = .ok (.istore_n 2, 1) := by decide +kernel
theorem dX7_rounds_59 : decode cX7_rounds 59 = .ok (.aload_n 0, 1) := by decide +kernel
theorem dX7_rounds_60 : decode cX7_rounds 60 = .ok (.iconst 1, 1) := by decide +kernel
theorem dX7_rounds_61 : decode cX7_rounds 61 = .ok (.iconst 0, 1) := by decide +kernel
theorem dX7_rounds_62 : decode cX7_rounds 62 = .ok (.invokevirtual 139, 3) := by decide +kernel
theorem dX7_rounds_65 : decode cX7_rounds 65 = .ok (.iload_n 2, 1) := by decide +kernel
theorem dX7_rounds_66 : decode cX7_rounds 66 = .ok (.ireturn, 1) := by decide +kernel
theorem dX7_marks_0 : decode cX7_marks 0 = .ok (.iload_n 1, 1) := by decide +kernel
theorem dX7_marks_1 : decode cX7_marks 1 = .ok (.iconst 0, 1) := by decide +kernel
theorem dX7_marks_2 : decode cX7_marks 2 = .ok (.iconst 1, 1) := by decide +kernel
theorem dX7_marks_3 : decode cX7_marks 3 = .ok (.invokestatic 99, 3) := by decide +kernel
theorem dX7_marks_6 : decode cX7_marks 6 = .ok (.ifCond .ne 10, 3) := by decide +kernel
theorem dX7_marks_9 : decode cX7_marks 9 = .ok (.aload_n 0, 1) := by decide +kernel
theorem dX7_marks_10 : decode cX7_marks 10 = .ok (.bipush (-2), 2) := by decide +kernel
theorem dX7_marks_12 : decode cX7_marks 12 = .ok (.invokevirtual 88, 3) := by decide +kernel
theorem dX7_marks_15 : decode cX7_marks 15 = .ok (.ireturn, 1) := by decide +kernel
theorem dX7_marks_16 : decode cX7_marks 16 = .ok (.aload_n 0, 1) := by decide +kernel
theorem dX7_marks_17 : decode cX7_marks 17 = .ok (.iconst 1, 1) := by decide +kernel
theorem dX7_marks_18 : decode cX7_marks 18 = .ok (.iconst 1, 1) := by decide +kernel
theorem dX7_marks_19 : decode cX7_marks 19 = .ok (.invokevirtual 139, 3) := by decide +kernel
theorem dX7_marks_22 : decode cX7_marks 22 = .ok (.iconst 0, 1) := by decide +kernel
theorem dX7_marks_23 : decode cX7_marks 23 = .ok (.istore_n 2, 1) := by decide +kernel
theorem dX7_marks_24 : decode cX7_marks 24 = .ok (.ldc 76, 2) := by decide +kernel
theorem dX7_marks_26 : decode cX7_marks 26 = .ok (.istore_n 3, 1) := by decide +kernel
theorem dX7_marks_27 : decode cX7_marks 27 = .ok (.iconst 0, 1) := by decide +kernel
theorem dX7_marks_28 : decode cX7_marks 28 = .ok (.istore 4, 2) := by decide +kernel
theorem dX7_marks_30 : decode cX7_marks 30 = .ok (.iload 4, 2) := by decide +kernel
theorem dX7_marks_32 : decode cX7_marks 32 = .ok (.aload_n 0, 1) := by decide +kernel
theorem dX7_marks_33 : decode cX7_marks 33 = .ok (.getfield 13, 3) := by decide +kernel
theorem dX7_marks_36 : decode cX7_marks 36 = .ok (.iconst 0, 1) := by decide +kernel
theorem dX7_marks_37 : decode cX7_marks 37 = .ok (.iaload, 1) := by decide +kernel
theorem dX7_marks_38 : decode cX7_marks 38 = .ok (.if_icmp .gt 39, 3) := by decide +kernel
theorem dX7_marks_41 : decode cX7_marks 41 = .ok (.aload_n 0, 1) := by decide +kernel
theorem dX7_marks_42 : decode cX7_marks 42 = .ok (.getfield 13, 3) := by decide +kernel
theorem dX7_marks_45 : decode cX7_marks 45 = .ok (.bipush 6, 2) := by decide +kernel
theorem dX7_marks_47 : decode cX7_marks 47 = .ok (.iload 4, 2) := by decide +kernel
theorem dX7_marks_49 : decode cX7_marks 49 = .ok (.iastore, 1) := by decide +kernel
theorem dX7_marks_50 : decode cX7_marks 50 = .ok (.aload_n 0, 1) := by decide +kernel
theorem dX7_marks_51 : decode cX7_marks 51 = .ok (.invokevirtual 228, 3) := by decide +kernel
theorem dX7_marks_54 : decode cX7_marks 54 = .ok (.istore 5, 2) := by decide +kernel
theorem dX7_marks_56 : decode cX7_marks 56 = .ok (.iload 5, 2) := by decide +kernel
theorem dX7_marks_58 : decode cX7_marks 58 = .ok (.iload_n 3, 1) := by decide +kernel
theorem dX7_marks_59 : decode cX7_marks 59 = .ok (.if_icmp .lt 6, 3) := by decide +kernel
theorem dX7_marks_62 : decode cX7_marks 62 = .ok (.goto 9, 3) := by decide +kernel
theorem dX7_marks_65 : decode cX7_marks 65 = .ok (.iload 4, 2) := by decide +kernel
theorem dX7_marks_67 : decode cX7_marks 67 = .ok (.istore_n 2, 1) := by decide +kernel
theorem dX7_marks_68 : decode cX7_marks 68 = .ok (.iload 5, 2) := by decide +kernel
theorem dX7_marks_70 : decode cX7_marks 70 = .ok (.istore_n 3, 1) := by decide +kernel
theorem dX7_marks_71 : decode cX7_marks 71 = .ok (.iinc 4 1, 3) := by decide +kernel
theorem dX7_marks_74 : decode cX7_marks 74 = .ok (.goto (-44), 3) := by decide +kernel
theorem dX7_marks_77 : decode cX7_marks 77 = .ok (.aload_n 0, 1) := by decide +kernel
theorem dX7_marks_78 : decode cX7_marks 78 = .ok (.iconst 1, 1) := by decide +kernel
theorem dX7_marks_79 : decode cX7_marks 79 = .ok (.iconst 0, 1) := by decide +kernel
theorem dX7_marks_80 : decode cX7_marks 80 = .ok (.invokevirtual 139, 3) := by decide +kernel
theorem dX7_marks_83 : decode cX7_marks 83 = .ok (.iload_n 1, 1) := by decide +kernel
theorem dX7_marks_84 : decode cX7_marks 84 = .ok (.ifCond .ne 7, 3) := by decide +kernel
theorem dX7_marks_87 : decode cX7_marks 87 = .ok (.iload_n 2, 1) := by decide +kernel
theorem dX7_marks_88 : decode cX7_marks 88 = .ok (.goto 4, 3) := by decide +kernel
theorem dX7_marks_91 : decode cX7_marks 91 = .ok (.iload_n 3, 1) := by decide +kernel
theorem dX7_marks_92 : decode cX7_marks 92 = .ok (.ireturn, 1) := by decide +kernel
theorem dX7_second_0 : decode cX7_second 0 = .ok (.aload_n 0, 1) := by decide +kernel
theorem dX7_second_1 : decode cX7_second 1 = .ok (.iconst 1, 1) := by decide +kernel
theorem dX7_second_2 : decode cX7_second 2 = .ok (.iconst 1, 1) := by decide +kernel
theorem dX7_second_3 : decode cX7_second 3 = .ok (.invokevirtual 139, 3) := by decide +kernel
theorem dX7_second_6 : decode cX7_second 6 = .ok (.aload_n 0, 1) := by decide +kernel
theorem dX7_second_7 : decode cX7_second 7 = .ok (.getfield 13, 3) := by decide +kernel
theorem dX7_second_10 : decode cX7_second 10 = .ok (.bipush 7, 2) := by decide +kernel
theorem dX7_second_12 : decode cX7_second 12 = .ok (.iconst 1, 1) := by decide +kernel
theorem dX7_second_13 : decode cX7_second 13 = .ok (.iastore, 1) := by decide +kernel
theorem dX7_second_14 : decode cX7_second 14 = .ok (.aload_n 0, 1) := by decide +kernel
theorem dX7_second_15 : decode cX7_second 15 = .ok (.invokevirtual 228, 3) := by decide +kernel
theorem dX7_second_18 : decode cX7_second 18 = .ok (.istore_n 1, 1) := by decide +kernel
theorem dX7_second_19 : decode cX7_second 19 = .ok (.aload_n 0, 1) := by decide +kernel
theorem dX7_second_20 : decode cX7_second 20 = .ok (.getfield 13, 3) := by decide +kernel
theorem dX7_second_23 : decode cX7_second 23 = .ok (.bipush 7, 2) := by decide +kernel
theorem dX7_second_25 : decode cX7_second 25 = .ok (.iconst 2, 1) := by decide +kernel
theorem dX7_second_26 : decode cX7_second 26 = .ok (.iastore, 1) := by decide +kernel
theorem dX7_second_27 : decode cX7_second 27 = .ok (.iload_n 1, 1) := by decide +kernel
theorem dX7_second_28 : decode cX7_second 28 = .ok (.aload_n 0, 1) := by decide +kernel
theorem dX7_second_29 : decode cX7_second 29 = .ok (.invokevirtual 228, 3) := by decide +kernel
theorem dX7_second_32 : decode cX7_second 32 = .ok (.isub, 1) := by decide +kernel
theorem dX7_second_33 : decode cX7_second 33 = .ok (.istore_n 1, 1) := by decide +kernel
theorem dX7_second_34 : decode cX7_second 34 = .ok (.aload_n 0, 1) := by decide +kernel
theorem dX7_second_35 : decode cX7_second 35 = .ok (.iconst 1, 1) := by decide +kernel
theorem dX7_second_36 : decode cX7_second 36 = .ok (.iconst 0, 1) := by decide +kernel
theorem dX7_second_37 : decode cX7_second 37 = .ok (.invokevirtual 139, 3) := by decide +kernel
theorem dX7_second_40 : decode cX7_second 40 = .ok (.iload_n 1, 1) := by decide +kernel
theorem dX7_second_41 : decode cX7_second 41 = .ok (.ireturn, 1) := by decide +kernel
theorem dX7_hours_0 : decode cX7_hours 0 = .ok (.sipush 180, 3) := by decide +kernel
theorem dX7_hours_3 : decode cX7_hours 3 = .ok (.istore_n 1, 1) := by decide +kernel
theorem dX7_hours_4 : decode cX7_hours 4 = .ok (.iconst 0, 1) := by decide +kernel
theorem dX7_hours_5 : decode cX7_hours 5 = .ok (.istore_n 2, 1) := by decide +kernel
theorem dX7_hours_6 : decode cX7_hours 6 = .ok (.iconst 0, 1) := by decide +kernel
theorem dX7_hours_7 : decode cX7_hours 7 = .ok (.istore_n 3, 1) := by decide +kernel
theorem dX7_hours_8 : decode cX7_hours 8 = .ok (.iload_n 3, 1) := by decide +kernel
theorem dX7_hours_9 : decode cX7_hours 9 = .ok (.aload_n 0, 1) := by decide +kernel
theorem dX7_hours_10 : decode cX7_hours 10 = .ok (.getfield 77, 3) := by decide +kernel
theorem dX7_hours_13 : decode cX7_hours 13 = .ok (.if_icmp .ge 51, 3) := by decide +kernel
theorem dX7_hours_16 : decode cX7_hours 16 = .ok (.aload_n 0, 1) := by decide +kernel
theorem dX7_hours_17 : decode cX7_hours 17 = .ok (.getfield 22, 3) := by decide +kernel
theorem dX7_hours_20 : decode cX7_hours 20 = .ok (.iload_n 3, 1) := by decide +kernel
theorem dX7_hours_21 : decode cX7_hours 21 = .ok (.iaload, 1) := by decide +kernel
theorem dX7_hours_22 : decode cX7_hours 22 = .ok (.iload_n 1, 1) := by decide +kernel
theorem dX7_hours_23 : decode cX7_hours 23 = .ok (.if_icmp .ge 12, 3) := by decide +kernel
theorem dX7_hours_26 : decode cX7_hours 26 = .ok (.aload_n 0, 1) := by decide +kernel
theorem dX7_hours_27 : decode cX7_hours 27 = .ok (.getfield 22, 3) := by decide +kernel
theorem dX7_hours_30 : decode cX7_hours 30 = .ok (.iload_n 3, 1) := by decide +kernel
theorem dX7_hours_31 : decode cX7_hours 31 = .ok (.iaload, 1) := by decide +kernel
theorem dX7_hours_32 : decode cX7_hours 32 = .ok (.goto 4, 3) := by decide +kernel
theorem dX7_hours_35 : decode cX7_hours 35 = .ok (.iload_n 1, 1) := by decide +kernel
theorem dX7_hours_36 : decode cX7_hours 36 = .ok (.istore_n 1, 1) := by decide +kernel
theorem dX7_hours_37 : decode cX7_hours 37 = .ok (.aload_n 0, 1) := by decide +kernel
theorem dX7_hours_38 : decode cX7_hours 38 = .ok (.getfield 22, 3) := by decide +kernel
theorem dX7_hours_41 : decode cX7_hours 41 = .ok (.iload_n 3, 1) := by decide +kernel
theorem dX7_hours_42 : decode cX7_hours 42 = .ok (.iaload, 1) := by decide +kernel
theorem dX7_hours_43 : decode cX7_hours 43 = .ok (.iload_n 2, 1) := by decide +kernel
theorem dX7_hours_44 : decode cX7_hours 44 = .ok (.if_icmp .le 12, 3) := by decide +kernel
theorem dX7_hours_47 : decode cX7_hours 47 = .ok (.aload_n 0, 1) := by decide +kernel
theorem dX7_hours_48 : decode cX7_hours 48 = .ok (.getfield 22, 3) := by decide +kernel
theorem dX7_hours_51 : decode cX7_hours 51 = .ok (.iload_n 3, 1) := by decide +kernel
theorem dX7_hours_52 : decode cX7_hours 52 = .ok (.iaload, 1) := by decide +kernel
theorem dX7_hours_53 : decode cX7_hours 53 = .ok (.goto 4, 3) := by decide +kernel
theorem dX7_hours_56 : decode cX7_hours 56 = .ok (.iload_n 2, 1) := by decide +kernel
theorem dX7_hours_57 : decode cX7_hours 57 = .ok (.istore_n 2, 1) := by decide +kernel
theorem dX7_hours_58 : decode cX7_hours 58 = .ok (.iinc 3 1, 3) := by decide +kernel
theorem dX7_hours_61 : decode cX7_hours 61 = .ok (.goto (-53), 3) := by decide +kernel
theorem dX7_hours_64 : decode cX7_hours 64 = .ok (.aload_n 0, 1) := by decide +kernel
theorem dX7_hours_65 : decode cX7_hours 65 = .ok (.getfield 77, 3) := by decide +kernel
theorem dX7_hours_68 : decode cX7_hours 68 = .ok (.ifCond .ne 7, 3) := by decide +kernel
theorem dX7_hours_71 : decode cX7_hours 71 = .ok (.iconst 0, 1) := by decide +kernel
theorem dX7_hours_72 : decode cX7_hours 72 = .ok (.goto 24, 3) := by decide +kernel
theorem dX7_hours_75 : decode cX7_hours 75 = .ok (.iload_n 2, 1) := by decide +kernel
theorem dX7_hours_76 : decode cX7_hours 76 = .ok (.iload_n 1, 1) := by decide +kernel
theorem dX7_hours_77 : decode cX7_hours 77 = .ok (.isub, 1) := by decide +kernel
theorem dX7_hours_78 : decode cX7_hours 78 = .ok (.bipush 60, 2) := by decide +kernel
theorem dX7_hours_80 : decode cX7_hours 80 = .ok (.if_icmp .gt 7, 3) := by decide +kernel
theorem dX7_hours_83 : decode cX7_hours 83 = .ok (.iconst 1, 1) := by decide +kernel
theorem dX7_hours_84 : decode cX7_hours 84 = .ok (.goto 12, 3) := by decide +kernel
theorem dX7_hours_87 : decode cX7_hours 87 = .ok (.iload_n 2, 1) := by decide +kernel
theorem dX7_hours_88 : decode cX7_hours 88 = .ok (.iload_n 1, 1) := by decide +kernel
theorem dX7_hours_89 : decode cX7_hours 89 = .ok (.isub, 1) := by decide +kernel
theorem dX7_hours_90 : decode cX7_hours 90 = .ok (.bipush 59, 2) := by decide +kernel
theorem dX7_hours_92 : decode cX7_hours 92 = .ok (.iadd, 1) := by decide +kernel
theorem dX7_hours_93 : decode cX7_hours 93 = .ok (.bipush 60, 2) := by decide +kernel
theorem dX7_hours_95 : decode cX7_hours 95 = .ok (.idiv, 1) := by decide +kernel
theorem dX7_hours_96 : decode cX7_hours 96 = .ok (.ireturn, 1) := by decide +kernel
theorem dX7_urn_0 : decode cX7_urn 0 = .ok (.iload_n 1, 1) := by decide +kernel
theorem dX7_urn_1 : decode cX7_urn 1 = .ok (.iconst 0, 1) := by decide +kernel
theorem dX7_urn_2 : decode cX7_urn 2 = .ok (.bipush 99, 2) := by decide +kernel
theorem dX7_urn_4 : decode cX7_urn 4 = .ok (.invokestatic 81, 3) := by decide +kernel
theorem dX7_urn_7 : decode cX7_urn 7 = .ok (.istore_n 2, 1) := by decide +kernel
theorem dX7_urn_8 : decode cX7_urn 8 = .ok (.iload_n 2, 1) := by decide +kernel
theorem dX7_urn_9 : decode cX7_urn 9 = .ok (.ifCond .eq 9, 3) := by decide +kernel
theorem dX7_urn_12 : decode cX7_urn 12 = .ok (.aload_n 0, 1) := by decide +kernel
theorem dX7_urn_13 : decode cX7_urn 13 = .ok (.iload_n 2, 1) := by decide +kernel
theorem dX7_urn_14 : decode cX7_urn 14 = .ok (.invokevirtual 88, 3) := by decide +kernel
theorem dX7_urn_17 : decode cX7_urn 17 = .ok (.ireturn, 1) := by decide +kernel
theorem dX7_urn_18 : decode cX7_urn 18 = .ok (.aload_n 0, 1) := by decide +kernel
theorem dX7_urn_19 : decode cX7_urn 19 = .ok (.iconst 1, 1) := by decide +kernel
theorem dX7_urn_20 : decode cX7_urn 20 = .ok (.iconst 1, 1) := by decide +kernel
theorem dX7_urn_21 : decode cX7_urn 21 = .ok (.invokevirtual 139, 3) := by decide +kernel
theorem dX7_urn_24 : decode cX7_urn 24 = .ok (.aload_n 0, 1) := by decide +kernel
theorem dX7_urn_25 : decode cX7_urn 25 = .ok (.invokevirtual 228, 3) := by decide +kernel
theorem dX7_urn_28 : decode cX7_urn 28 = .ok (.istore_n 3, 1) := by decide +kernel
theorem dX7_urn_29 : decode cX7_urn 29 = .ok (.aload_n 0, 1) := by decide +kernel
theorem dX7_urn_30 : decode cX7_urn 30 = .ok (.iconst 1, 1) := by decide +kernel
theorem dX7_urn_31 : decode cX7_urn 31 = .ok (.iconst 0, 1) := by decide +kernel
theorem dX7_urn_32 : decode cX7_urn 32 = .ok (.invokevirtual 139, 3) := by decide +kernel
theorem dX7_urn_35 : decode cX7_urn 35 = .ok (.aload_n 0, 1) := by decide +kernel
theorem dX7_urn_36 : decode cX7_urn 36 = .ok (.invokevirtual 246, 3) := by decide +kernel
theorem dX7_urn_39 : decode cX7_urn 39 = .ok (.iload_n 1, 1) := by decide +kernel
theorem dX7_urn_40 : decode cX7_urn 40 = .ok (.imul, 1) := by decide +kernel
theorem dX7_urn_41 : decode cX7_urn 41 = .ok (.iload_n 3, 1) := by decide +kernel
theorem dX7_urn_42 : decode cX7_urn 42 = .ok (.if_icmp .ge 7, 3) := by decide +kernel
theorem dX7_urn_45 : decode cX7_urn 45 = .ok (.iconst 1, 1) := by decide +kernel
theorem dX7_urn_46 : decode cX7_urn 46 = .ok (.goto 4, 3) := by decide +kernel
theorem dX7_urn_49 : decode cX7_urn 49 = .ok (.iconst 0, 1) := by decide +kernel
theorem dX7_urn_50 : decode cX7_urn 50 = .ok (.ireturn, 1) := by decide +kernel
theorem dX7_sorts_0 : decode cX7_sorts 0 = .ok (.iconst 0, 1) := by decide +kernel
theorem dX7_sorts_1 : decode cX7_sorts 1 = .ok (.istore_n 1, 1) := by decide +kernel
theorem dX7_sorts_2 : decode cX7_sorts 2 = .ok (.iload_n 1, 1) := by decide +kernel
theorem dX7_sorts_3 : decode cX7_sorts 3 = .ok (.aload_n 0, 1) := by decide +kernel
theorem dX7_sorts_4 : decode cX7_sorts 4 = .ok (.getfield 77, 3) := by decide +kernel
theorem dX7_sorts_7 : decode cX7_sorts 7 = .ok (.if_icmp .ge 64, 3) := by decide +kernel
theorem dX7_sorts_10 : decode cX7_sorts 10 = .ok (.iload_n 1, 1) := by decide +kernel
theorem dX7_sorts_11 : decode cX7_sorts 11 = .ok (.istore_n 2, 1) := by decide +kernel
theorem dX7_sorts_12 : decode cX7_sorts 12 = .ok (.iload_n 2, 1) := by decide +kernel
theorem dX7_sorts_13 : decode cX7_sorts 13 = .ok (.ifCond .le 45, 3) := by decide +kernel
theorem dX7_sorts_16 : decode cX7_sorts 16 = .ok (.aload_n 0, 1) := by decide +kernel
theorem dX7_sorts_17 : decode cX7_sorts 17 = .ok (.getfield 22, 3) := by decide +kernel
theorem dX7_sorts_20 : decode cX7_sorts 20 = .ok (.aload_n 0, 1) := by decide +kernel
theorem dX7_sorts_21 : decode cX7_sorts 21 = .ok (.getfield 70, 3) := by decide +kernel
theorem dX7_sorts_24 : decode cX7_sorts 24 = .ok (.iload_n 2, 1) := by decide +kernel
theorem dX7_sorts_25 : decode cX7_sorts 25 = .ok (.iconst 1, 1) := by decide +kernel
theorem dX7_sorts_26 : decode cX7_sorts 26 = .ok (.isub, 1) := by decide +kernel
theorem dX7_sorts_27 : decode cX7_sorts 27 = .ok (.iaload, 1) := by decide +kernel
theorem dX7_sorts_28 : decode cX7_sorts 28 = .ok (.iaload, 1) := by decide +kernel
theorem dX7_sorts_29 : decode cX7_sorts 29 = .ok (.aload_n 0, 1) := by decide +kernel
theorem dX7_sorts_30 : decode cX7_sorts 30 = .ok (.getfield 22, 3) := by decide +kernel
theorem dX7_sorts_33 : decode cX7_sorts 33 = .ok (.iload_n 1, 1) := by decide +kernel
theorem dX7_sorts_34 : decode cX7_sorts 34 = .ok (.iaload, 1) := by decide +kernel
theorem dX7_sorts_35 : decode cX7_sorts 35 = .ok (.if_icmp .le 23, 3) := by decide +kernel
theorem dX7_sorts_38 : decode cX7_sorts 38 = .ok (.aload_n 0, 1) := by decide +kernel
theorem dX7_sorts_39 : decode cX7_sorts 39 = .ok (.getfield 70, 3) := by decide +kernel
theorem dX7_sorts_42 : decode cX7_sorts 42 = .ok (.iload_n 2, 1) := by decide +kernel
theorem dX7_sorts_43 : decode cX7_sorts 43 = .ok (.aload_n 0, 1) := by decide +kernel
theorem dX7_sorts_44 : decode cX7_sorts 44 = .ok (.getfield 70, 3) := by decide +kernel
theorem dX7_sorts_47 : decode cX7_sorts 47 = .ok (.iload_n 2, 1) := by decide +kernel
theorem dX7_sorts_48 : decode cX7_sorts 48 = .ok (.iconst 1, 1) := by decide +kernel
theorem dX7_sorts_49 : decode cX7_sorts 49 = .ok (.isub, 1) := by decide +kernel
theorem dX7_sorts_50 : decode cX7_sorts 50 = .ok (.iaload, 1) := by decide +kernel
theorem dX7_sorts_51 : decode cX7_sorts 51 = .ok (.iastore, 1) := by decide +kernel
theorem dX7_sorts_52 : decode cX7_sorts 52 = .ok (.iinc 2 (-1), 3) := by decide +kernel
theorem dX7_sorts_55 : decode cX7_sorts 55 = .ok (.goto (-43), 3) := by decide +kernel
theorem dX7_sorts_58 : decode cX7_sorts 58 = .ok (.aload_n 0, 1) := by decide +kernel
theorem dX7_sorts_59 : decode cX7_sorts 59 = .ok (.getfield 70, 3) := by decide +kernel
theorem dX7_sorts_62 : decode cX7_sorts 62 = .ok (.iload_n 2, 1) := by decide +kernel
theorem dX7_sorts_63 : decode cX7_sorts 63 = .ok (.iload_n 1, 1) := by decide +kernel
theorem dX7_sorts_64 : decode cX7_sorts 64 = .ok (.iastore, 1) := by decide +kernel
theorem dX7_sorts_65 : decode cX7_sorts 65 = .ok (.iinc 1 1, 3) := by decide +kernel
theorem dX7_sorts_68 : decode cX7_sorts 68 = .ok (.goto (-66), 3) := by decide +kernel
theorem dX7_sorts_71 : decode cX7_sorts 71 = .ok (.return_, 1) := by decide +kernel
theorem dX7_costOfRows_0 : decode cX7_costOfRows 0 = .ok (.iconst 0, 1) := by decide +kernel
theorem dX7_costOfRows_1 : decode cX7_costOfRows 1 = .ok (.istore_n 2, 1) := by decide +kernel
theorem dX7_costOfRows_2 : decode cX7_costOfRows 2 = .ok (.iconst 0, 1) := by decide +kernel
theorem dX7_costOfRows_3 : decode cX7_costOfRows 3 = .ok (.istore_n 3, 1) := by decide +kernel
theorem dX7_costOfRows_4 : decode cX7_costOfRows 4 = .ok (.iconst 0, 1) := by decide +kernel
theorem dX7_costOfRows_5 : decode cX7_costOfRows 5 = .ok (.istore 4, 2) := by decide +kernel
theorem dX7_costOfRows_7 : decode cX7_costOfRows 7 = .ok (.iconst 0, 1) := by decide +kernel
theorem dX7_costOfRows_8 : decode cX7_costOfRows 8 = .ok (.istore 5, 2) := by decide +kernel
theorem dX7_costOfRows_10 : decode cX7_costOfRows 10 = .ok (.iconst 0, 1) := by decide +kernel
theorem dX7_costOfRows_11 : decode cX7_costOfRows 11 = .ok (.istore 6, 2) := by decide +kernel
theorem dX7_costOfRows_13 : decode cX7_costOfRows 13 = .ok (.iload 6, 2) := by decide +kernel
theorem dX7_costOfRows_15 : decode cX7_costOfRows 15 = .ok (.aload_n 0, 1) := by decide +kernel
theorem dX7_costOfRows_16 : decode cX7_costOfRows 16 = .ok (.getfield 77, 3) := by decide +kernel
theorem dX7_costOfRows_19 : decode cX7_costOfRows 19 = .ok (.if_icmp .ge 158, 3) := by decide +kernel
theorem dX7_costOfRows_22 : decode cX7_costOfRows 22 = .ok (.iload 5, 2) := by decide +kernel
theorem dX7_costOfRows_24 : decode cX7_costOfRows 24 = .ok (.aload_n 0, 1) := by decide +kernel
theorem dX7_costOfRows_25 : decode cX7_costOfRows 25 = .ok (.getfield 25, 3) := by decide +kernel
theorem dX7_costOfRows_28 : decode cX7_costOfRows 28 = .ok (.aload_n 0, 1) := by decide +kernel
theorem dX7_costOfRows_29 : decode cX7_costOfRows 29 = .ok (.getfield 70, 3) := by decide +kernel
theorem dX7_costOfRows_32 : decode cX7_costOfRows 32 = .ok (.iload 6, 2) := by decide +kernel
theorem dX7_costOfRows_34 : decode cX7_costOfRows 34 = .ok (.iaload, 1) := by decide +kernel
theorem dX7_costOfRows_35 : decode cX7_costOfRows 35 = .ok (.iaload, 1) := by decide +kernel
theorem dX7_costOfRows_36 : decode cX7_costOfRows 36 = .ok (.iadd, 1) := by decide +kernel
theorem dX7_costOfRows_37 : decode cX7_costOfRows 37 = .ok (.istore 5, 2) := by decide +kernel
theorem dX7_costOfRows_39 : decode cX7_costOfRows 39 = .ok (.iload_n 1, 1) := by decide +kernel
theorem dX7_costOfRows_40 : decode cX7_costOfRows 40 = .ok (.iload 6, 2) := by decide +kernel
theorem dX7_costOfRows_42 : decode cX7_costOfRows 42 = .ok (.ishr, 1) := by decide +kernel
theorem dX7_costOfRows_43 : decode cX7_costOfRows 43 = .ok (.iconst 1, 1) := by decide +kernel
theorem dX7_costOfRows_44 : decode cX7_costOfRows 44 = .ok (.iand, 1) := by decide +kernel
theorem dX7_costOfRows_45 : decode cX7_costOfRows 45 = .ok (.ifCond .ne 6, 3) := by decide +kernel
theorem dX7_costOfRows_48 : decode cX7_costOfRows 48 = .ok (.goto 123, 3) := by decide +kernel
theorem dX7_costOfRows_51 : decode cX7_costOfRows 51 = .ok (.iload 5, 2) := by decide +kernel
theorem dX7_costOfRows_53 : decode cX7_costOfRows 53 = .ok (.aload_n 0, 1) := by decide +kernel
theorem dX7_costOfRows_54 : decode cX7_costOfRows 54 = .ok (.getfield 13, 3) := by decide +kernel
theorem dX7_costOfRows_57 : decode cX7_costOfRows 57 = .ok (.iconst 0, 1) := by decide +kernel
theorem dX7_costOfRows_58 : decode cX7_costOfRows 58 = .ok (.iaload, 1) := by decide +kernel
theorem dX7_costOfRows_59 : decode cX7_costOfRows 59 = .ok (.if_icmp .le 6, 3) := by decide +kernel
theorem dX7_costOfRows_62 : decode cX7_costOfRows 62 = .ok (.ldc 76, 2) := by decide +kernel
theorem dX7_costOfRows_64 : decode cX7_costOfRows 64 = .ok (.ireturn, 1) := by decide +kernel
theorem dX7_costOfRows_65 : decode cX7_costOfRows 65 = .ok (.aload_n 0, 1) := by decide +kernel
theorem dX7_costOfRows_66 : decode cX7_costOfRows 66 = .ok (.getfield 22, 3) := by decide +kernel
theorem dX7_costOfRows_69 : decode cX7_costOfRows 69 = .ok (.aload_n 0, 1) := by decide +kernel
theorem dX7_costOfRows_70 : decode cX7_costOfRows 70 = .ok (.getfield 70, 3) := by decide +kernel
theorem dX7_costOfRows_73 : decode cX7_costOfRows 73 = .ok (.iload 6, 2) := by decide +kernel
theorem dX7_costOfRows_75 : decode cX7_costOfRows 75 = .ok (.iaload, 1) := by decide +kernel
theorem dX7_costOfRows_76 : decode cX7_costOfRows 76 = .ok (.iaload, 1) := by decide +kernel
theorem dX7_costOfRows_77 : decode cX7_costOfRows 77 = .ok (.iload_n 3, 1) := by decide +kernel
theorem dX7_costOfRows_78 : decode cX7_costOfRows 78 = .ok (.if_icmp .le 18, 3) := by decide +kernel
theorem dX7_costOfRows_81 : decode cX7_costOfRows 81 = .ok (.aload_n 0, 1) := by decide +kernel
theorem dX7_costOfRows_82 : decode cX7_costOfRows 82 = .ok (.getfield 22, 3) := by decide +kernel
theorem dX7_costOfRows_85 : decode cX7_costOfRows 85 = .ok (.aload_n 0, 1) := by decide +kernel
theorem dX7_costOfRows_86 : decode cX7_costOfRows 86 = .ok (.getfield 70, 3) := by decide +kernel
theorem dX7_costOfRows_89 : decode cX7_costOfRows 89 = .ok (.iload 6, 2) := by decide +kernel
theorem dX7_costOfRows_91 : decode cX7_costOfRows 91 = .ok (.iaload, 1) := by decide +kernel
theorem dX7_costOfRows_92 : decode cX7_costOfRows 92 = .ok (.iaload, 1) := by decide +kernel
theorem dX7_costOfRows_93 : decode cX7_costOfRows 93 = .ok (.goto 4, 3) := by decide +kernel
theorem dX7_costOfRows_96 : decode cX7_costOfRows 96 = .ok (.iload_n 3, 1) := by decide +kernel
theorem dX7_costOfRows_97 : decode cX7_costOfRows 97 = .ok (.istore 7, 2) := by decide +kernel
theorem dX7_costOfRows_99 : decode cX7_costOfRows 99 = .ok (.iload 7, 2) := by decide +kernel
theorem dX7_costOfRows_101 : decode cX7_costOfRows 101 = .ok (.aload_n 0, 1) := by decide +kernel
theorem dX7_costOfRows_102 : decode cX7_costOfRows 102 = .ok (.getfield 13, 3) := by decide +kernel
theorem dX7_costOfRows_105 : decode cX7_costOfRows 105 = .ok (.iconst 1, 1) := by decide +kernel
theorem dX7_costOfRows_106 : decode cX7_costOfRows 106 = .ok (.iaload, 1) := by decide +kernel
theorem dX7_costOfRows_107 : decode cX7_costOfRows 107 = .ok (.iadd, 1) := by decide +kernel
theorem dX7_costOfRows_108 : decode cX7_costOfRows 108 = .ok (.aload_n 0, 1) := by decide +kernel
theorem dX7_costOfRows_109 : decode cX7_costOfRows 109 = .ok (.iload 5, 2) := by decide +kernel
theorem dX7_costOfRows_111 : decode cX7_costOfRows 111 = .ok (.bipush 10, 2) := by decide +kernel
theorem dX7_costOfRows_113 : decode cX7_costOfRows 113 = .ok (.invokevirtual 178, 3) := by decide +kernel
theorem dX7_costOfRows_116 : decode cX7_costOfRows 116 = .ok (.iadd, 1) := by decide +kernel
theorem dX7_costOfRows_117 : decode cX7_costOfRows 117 = .ok (.istore_n 3, 1) := by decide +kernel
theorem dX7_costOfRows_118 : decode cX7_costOfRows 118 = .ok (.iinc 2 3, 3) := by decide +kernel
theorem dX7_costOfRows_121 : decode cX7_costOfRows 121 = .ok (.iload 4, 2) := by decide +kernel
theorem dX7_costOfRows_123 : decode cX7_costOfRows 123 = .ok (.istore 8, 2) := by decide +kernel
theorem dX7_costOfRows_125 : decode cX7_costOfRows 125 = .ok (.iload 8, 2) := by decide +kernel
theorem dX7_costOfRows_127 : decode cX7_costOfRows 127 = .ok (.iload 6, 2) := by decide +kernel
theorem dX7_costOfRows_129 : decode cX7_costOfRows 129 = .ok (.if_icmp .gt 33, 3) := by decide +kernel
theorem dX7_costOfRows_132 : decode cX7_costOfRows 132 = .ok (.iload_n 2, 1) := by decide +kernel
theorem dX7_costOfRows_133 : decode cX7_costOfRows 133 = .ok (.iload_n 3, 1) := by decide +kernel
theorem dX7_costOfRows_134 : decode cX7_costOfRows 134 = .ok (.aload_n 0, 1) := by decide +kernel
theorem dX7_costOfRows_135 : decode cX7_costOfRows 135 = .ok (.getfield 22, 3) := by decide +kernel
theorem dX7_costOfRows_138 : decode cX7_costOfRows 138 = .ok (.aload_n 0, 1) := by decide +kernel
theorem dX7_costOfRows_139 : decode cX7_costOfRows 139 = .ok (.getfield 70, 3) := by decide +kernel
theorem dX7_costOfRows_142 : decode cX7_costOfRows 142 = .ok (.iload 8, 2) := by decide +kernel
theorem dX7_costOfRows_144 : decode cX7_costOfRows 144 = .ok (.iaload, 1) := by decide +kernel
theorem dX7_costOfRows_145 : decode cX7_costOfRows 145 = .ok (.iaload, 1) := by decide +kernel
theorem dX7_costOfRows_146 : decode cX7_costOfRows 146 = .ok (.isub, 1) := by decide +kernel
theorem dX7_costOfRows_147 : decode cX7_costOfRows 147 = .ok (.aload_n 0, 1) := by decide +kernel
theorem dX7_costOfRows_148 : decode cX7_costOfRows 148 = .ok (.getfield 13, 3) := by decide +kernel
theorem dX7_costOfRows_151 : decode cX7_costOfRows 151 = .ok (.iconst 4, 1) := by decide +kernel
theorem dX7_costOfRows_152 : decode cX7_costOfRows 152 = .ok (.iaload, 1) := by decide +kernel
theorem dX7_costOfRows_153 : decode cX7_costOfRows 153 = .ok (.imul, 1) := by decide +kernel
theorem dX7_costOfRows_154 : decode cX7_costOfRows 154 = .ok (.iadd, 1) := by decide +kernel
theorem dX7_costOfRows_155 : decode cX7_costOfRows 155 = .ok (.istore_n 2, 1) := by decide +kernel
theorem dX7_costOfRows_156 : decode cX7_costOfRows 156 = .ok (.iinc 8 1, 3) := by decide +kernel
theorem dX7_costOfRows_159 : decode cX7_costOfRows 159 = .ok (.goto (-34), 3) := by decide +kernel
theorem dX7_costOfRows_162 : decode cX7_costOfRows 162 = .ok (.iload 6, 2) := by decide +kernel
theorem dX7_costOfRows_164 : decode cX7_costOfRows 164 = .ok (.iconst 1, 1) := by decide +kernel
theorem dX7_costOfRows_165 : decode cX7_costOfRows 165 = .ok (.iadd, 1) := by decide +kernel
theorem dX7_costOfRows_166 : decode cX7_costOfRows 166 = .ok (.istore 4, 2) := by decide +kernel
theorem dX7_costOfRows_168 : decode cX7_costOfRows 168 = .ok (.iconst 0, 1) := by decide +kernel
theorem dX7_costOfRows_169 : decode cX7_costOfRows 169 = .ok (.istore 5, 2) := by decide +kernel
theorem dX7_costOfRows_171 : decode cX7_costOfRows 171 = .ok (.iinc 6 1, 3) := by decide +kernel
theorem dX7_costOfRows_174 : decode cX7_costOfRows 174 = .ok (.goto (-161), 3) := by decide +kernel
theorem dX7_costOfRows_177 : decode cX7_costOfRows 177 = .ok (.iload_n 2, 1) := by decide +kernel
theorem dX7_costOfRows_178 : decode cX7_costOfRows 178 = .ok (.ireturn, 1) := by decide +kernel
theorem dX7_least_0 : decode cX7_least 0 = .ok (.iload_n 1, 1) := by decide +kernel
theorem dX7_least_1 : decode cX7_least 1 = .ok (.iconst 0, 1) := by decide +kernel
theorem dX7_least_2 : decode cX7_least 2 = .ok (.iconst 1, 1) := by decide +kernel
theorem dX7_least_3 : decode cX7_least 3 = .ok (.invokestatic 99, 3) := by decide +kernel
theorem dX7_least_6 : decode cX7_least 6 = .ok (.ifCond .ne 10, 3) := by decide +kernel
theorem dX7_least_9 : decode cX7_least 9 = .ok (.aload_n 0, 1) := by decide +kernel
theorem dX7_least_10 : decode cX7_least 10 = .ok (.bipush (-2), 2) := by decide +kernel
theorem dX7_least_12 : decode cX7_least 12 = .ok (.invokevirtual 88, 3) := by decide +kernel
theorem dX7_least_15 : decode cX7_least 15 = .ok (.ireturn, 1) := by decide +kernel
theorem dX7_least_16 : decode cX7_least 16 = .ok (.iconst 0, 1) := by decide +kernel
theorem dX7_least_17 : decode cX7_least 17 = .ok (.istore_n 2, 1) := by decide +kernel
theorem dX7_least_18 : decode cX7_least 18 = .ok (.iload_n 2, 1) := by decide +kernel
theorem dX7_least_19 : decode cX7_least 19 = .ok (.aload_n 0, 1) := by decide +kernel
theorem dX7_least_20 : decode cX7_least 20 = .ok (.getfield 77, 3) := by decide +kernel
theorem dX7_least_23 : decode cX7_least 23 = .ok (.if_icmp .ge 31, 3) := by decide +kernel
theorem dX7_least_26 : decode cX7_least 26 = .ok (.aload_n 0, 1) := by decide +kernel
theorem dX7_least_27 : decode cX7_least 27 = .ok (.getfield 25, 3) := by decide +kernel
theorem dX7_least_30 : decode cX7_least 30 = .ok (.iload_n 2, 1) := by decide +kernel
theorem dX7_least_31 : decode cX7_least 31 = .ok (.iaload, 1) := by decide +kernel
theorem dX7_least_32 : decode cX7_least 32 = .ok (.aload_n 0, 1) := by decide +kernel
theorem dX7_least_33 : decode cX7_least 33 = .ok (.getfield 13, 3) := by decide +kernel
theorem dX7_least_36 : decode cX7_least 36 = .ok (.iconst 0, 1) := by decide +kernel
theorem dX7_least_37 : decode cX7_least 37 = .ok (.iaload, 1) := by decide +kernel
theorem dX7_least_38 : decode cX7_least 38 = .ok (.if_icmp .le 10, 3) := by decide +kernel
theorem dX7_least_41 : decode cX7_least 41 = .ok (.aload_n 0, 1) := by decide +kernel
theorem dX7_least_42 : decode cX7_least 42 = .ok (.bipush (-3), 2) := by decide +kernel
theorem dX7_least_44 : decode cX7_least 44 = .ok (.invokevirtual 88, 3) := by decide +kernel
theorem dX7_least_47 : decode cX7_least 47 = .ok (.ireturn, 1) := by decide +kernel
theorem dX7_least_48 : decode cX7_least 48 = .ok (.iinc 2 1, 3) := by decide +kernel
theorem dX7_least_51 : decode cX7_least 51 = .ok (.goto (-33), 3) := by decide +kernel
theorem dX7_least_54 : decode cX7_least 54 = .ok (.aload_n 0, 1) := by decide +kernel
theorem dX7_least_55 : decode cX7_least 55 = .ok (.getfield 77, 3) := by decide +kernel
theorem dX7_least_58 : decode cX7_least 58 = .ok (.ifCond .ne 5, 3) := by decide +kernel
theorem dX7_least_61 : decode cX7_least 61 = .ok (.iconst 0, 1) := by decide +kernel
theorem dX7_least_62 : decode cX7_least 62 = .ok (.ireturn, 1) := by decide +kernel
theorem dX7_least_63 : decode cX7_least 63 = .ok (.aload_n 0, 1) := by decide +kernel
theorem dX7_least_64 : decode cX7_least 64 = .ok (.invokevirtual 249, 3) := by decide +kernel
theorem dX7_least_67 : decode cX7_least 67 = .ok (.iconst 0, 1) := by decide +kernel
theorem dX7_least_68 : decode cX7_least 68 = .ok (.istore_n 2, 1) := by decide +kernel
theorem dX7_least_69 : decode cX7_least 69 = .ok (.ldc 76, 2) := by decide +kernel
theorem dX7_least_71 : decode cX7_least 71 = .ok (.istore_n 3, 1) := by decide +kernel
theorem dX7_least_72 : decode cX7_least 72 = .ok (.iconst 1, 1) := by decide +kernel
theorem dX7_least_73 : decode cX7_least 73 = .ok (.aload_n 0, 1) := by decide +kernel
theorem dX7_least_74 : decode cX7_least 74 = .ok (.getfield 77, 3) := by decide +kernel
theorem dX7_least_77 : decode cX7_least 77 = .ok (.iconst 1, 1) := by decide +kernel
theorem dX7_least_78 : decode cX7_least 78 = .ok (.isub, 1) := by decide +kernel
theorem dX7_least_79 : decode cX7_least 79 = .ok (.ishl, 1) := by decide +kernel
theorem dX7_least_80 : decode cX7_least 80 = .ok (.istore 4, 2) := by decide +kernel
theorem dX7_least_82 : decode cX7_least 82 = .ok (.iload 4, 2) := by decide +kernel
theorem dX7_least_84 : decode cX7_least 84 = .ok (.iconst 1, 1) := by decide +kernel
theorem dX7_least_85 : decode cX7_least 85 = .ok (.aload_n 0, 1) := by decide +kernel
theorem dX7_least_86 : decode cX7_least 86 = .ok (.getfield 77, 3) := by decide +kernel
theorem dX7_least_89 : decode cX7_least 89 = .ok (.ishl, 1) := by decide +kernel
theorem dX7_least_90 : decode cX7_least 90 = .ok (.if_icmp .ge 32, 3) := by decide +kernel
theorem dX7_least_93 : decode cX7_least 93 = .ok (.aload_n 0, 1) := by decide +kernel
theorem dX7_least_94 : decode cX7_least 94 = .ok (.iload 4, 2) := by decide +kernel
theorem dX7_least_96 : decode cX7_least 96 = .ok (.invokevirtual 252, 3) := by decide +kernel
theorem dX7_least_99 : decode cX7_least 99 = .ok (.istore 5, 2) := by decide +kernel
theorem dX7_least_101 : decode cX7_least 101 = .ok (.iload 5, 2) := by decide +kernel
theorem dX7_least_103 : decode cX7_least 103 = .ok (.iload_n 3, 1) := by decide +kernel
theorem dX7_least_104 : decode cX7_least 104 = .ok (.if_icmp .lt 6, 3) := by decide +kernel
theorem dX7_least_107 : decode cX7_least 107 = .ok (.goto 9, 3) := by decide +kernel
theorem dX7_least_110 : decode cX7_least 110 = .ok (.iload 4, 2) := by decide +kernel
theorem dX7_least_112 : decode cX7_least 112 = .ok (.istore_n 2, 1) := by decide +kernel
theorem dX7_least_113 : decode cX7_least 113 = .ok (.iload 5, 2) := by decide +kernel
theorem dX7_least_115 : decode cX7_least 115 = .ok (.istore_n 3, 1) := by decide +kernel
theorem dX7_least_116 : decode cX7_least 116 = .ok (.iinc 4 1, 3) := by decide +kernel
theorem dX7_least_119 : decode cX7_least 119 = .ok (.goto (-37), 3) := by decide +kernel
theorem dX7_least_122 : decode cX7_least 122 = .ok (.iload_n 1, 1) := by decide +kernel
theorem dX7_least_123 : decode cX7_least 123 = .ok (.ifCond .ne 7, 3) := by decide +kernel
theorem dX7_least_126 : decode cX7_least 126 = .ok (.iload_n 3, 1) := by decide +kernel
theorem dX7_least_127 : decode cX7_least 127 = .ok (.goto 4, 3) := by decide +kernel
theorem dX7_least_130 : decode cX7_least 130 = .ok (.iload_n 2, 1) := by decide +kernel
theorem dX7_least_131 : decode cX7_least 131 = .ok (.ireturn, 1) := by decide +kernel
theorem dX7_ferryBy_0 : decode cX7_ferryBy 0 = .ok (.aload_n 0, 1) := by decide +kernel
theorem dX7_ferryBy_1 : decode cX7_ferryBy 1 = .ok (.invokevirtual 249, 3) := by decide +kernel
theorem dX7_ferryBy_4 : decode cX7_ferryBy 4 = .ok (.iconst 0, 1) := by decide +kernel
theorem dX7_ferryBy_5 : decode cX7_ferryBy 5 = .ok (.istore_n 3, 1) := by decide +kernel
theorem dX7_ferryBy_6 : decode cX7_ferryBy 6 = .ok (.iconst 0, 1) := by decide +kernel
theorem dX7_ferryBy_7 : decode cX7_ferryBy 7 = .ok (.istore 4, 2) := by decide +kernel
theorem dX7_ferryBy_9 : decode cX7_ferryBy 9 = .ok (.iload 4, 2) := by decide +kernel
theorem dX7_ferryBy_11 : decode cX7_ferryBy 11 = .ok (.aload_n 0, 1) := by decide +kernel
theorem dX7_ferryBy_12 : decode cX7_ferryBy 12 = .ok (.getfield 77, 3) := by decide +kernel
theorem dX7_ferryBy_15 : decode cX7_ferryBy 15 = .ok (.if_icmp .ge 83, 3) := by decide +kernel
theorem dX7_ferryBy_18 : decode cX7_ferryBy 18 = .ok (.iload 4, 2) := by decide +kernel
theorem dX7_ferryBy_20 : decode cX7_ferryBy 20 = .ok (.iload_n 1, 1) := by decide +kernel
theorem dX7_ferryBy_21 : decode cX7_ferryBy 21 = .ok (.idiv, 1) := by decide +kernel
theorem dX7_ferryBy_22 : decode cX7_ferryBy 22 = .ok (.iload_n 1, 1) := by decide +kernel
theorem dX7_ferryBy_23 : decode cX7_ferryBy 23 = .ok (.imul, 1) := by decide +kernel
theorem dX7_ferryBy_24 : decode cX7_ferryBy 24 = .ok (.iload_n 1, 1) := by decide +kernel
theorem dX7_ferryBy_25 : decode cX7_ferryBy 25 = .ok (.iadd, 1) := by decide +kernel
theorem dX7_ferryBy_26 : decode cX7_ferryBy 26 = .ok (.iconst 1, 1) := by decide +kernel
theorem dX7_ferryBy_27 : decode cX7_ferryBy 27 = .ok (.isub, 1) := by decide +kernel
theorem dX7_ferryBy_28 : decode cX7_ferryBy 28 = .ok (.istore 5, 2) := by decide +kernel
theorem dX7_ferryBy_30 : decode cX7_ferryBy 30 = .ok (.iload 5, 2) := by decide +kernel
theorem dX7_ferryBy_32 : decode cX7_ferryBy 32 = .ok (.aload_n 0, 1) := by decide +kernel
theorem dX7_ferryBy_33 : decode cX7_ferryBy 33 = .ok (.getfield 77, 3) := by decide +kernel
theorem dX7_ferryBy_36 : decode cX7_ferryBy 36 = .ok (.if_icmp .ge 18, 3) := by decide +kernel
theorem dX7_ferryBy_39 : decode cX7_ferryBy 39 = .ok (.aload_n 0, 1) := by decide +kernel
theorem dX7_ferryBy_40 : decode cX7_ferryBy 40 = .ok (.getfield 22, 3) := by decide +kernel
theorem dX7_ferryBy_43 : decode cX7_ferryBy 43 = .ok (.aload_n 0, 1) := by decide +kernel
theorem dX7_ferryBy_44 : decode cX7_ferryBy 44 = .ok (.getfield 70, 3) := by decide +kernel
theorem dX7_ferryBy_47 : decode cX7_ferryBy 47 = .ok (.iload 5, 2) := by decide +kernel
theorem dX7_ferryBy_49 : decode cX7_ferryBy 49 = .ok (.iaload, 1) := by decide +kernel
theorem dX7_ferryBy_50 : decode cX7_ferryBy 50 = .ok (.iaload, 1) := by decide +kernel
theorem dX7_ferryBy_51 : decode cX7_ferryBy 51 = .ok (.goto 21, 3) := by decide +kernel
theorem dX7_ferryBy_54 : decode cX7_ferryBy 54 = .ok (.aload_n 0, 1) := by decide +kernel
theorem dX7_ferryBy_55 : decode cX7_ferryBy 55 = .ok (.getfield 22, 3) := by decide +kernel
theorem dX7_ferryBy_58 : decode cX7_ferryBy 58 = .ok (.aload_n 0, 1) := by decide +kernel
theorem dX7_ferryBy_59 : decode cX7_ferryBy 59 = .ok (.getfield 70, 3) := by decide +kernel
theorem dX7_ferryBy_62 : decode cX7_ferryBy 62 = .ok (.aload_n 0, 1) := by decide +kernel
theorem dX7_ferryBy_63 : decode cX7_ferryBy 63 = .ok (.getfield 77, 3) := by decide +kernel
theorem dX7_ferryBy_66 : decode cX7_ferryBy 66 = .ok (.iconst 1, 1) := by decide +kernel
theorem dX7_ferryBy_67 : decode cX7_ferryBy 67 = .ok (.isub, 1) := by decide +kernel
theorem dX7_ferryBy_68 : decode cX7_ferryBy 68 = .ok (.iaload, 1) := by decide +kernel
theorem dX7_ferryBy_69 : decode cX7_ferryBy 69 = .ok (.iaload, 1) := by decide +kernel
theorem dX7_ferryBy_70 : decode cX7_ferryBy 70 = .ok (.iload_n 2, 1) := by decide +kernel
theorem dX7_ferryBy_71 : decode cX7_ferryBy 71 = .ok (.iadd, 1) := by decide +kernel
theorem dX7_ferryBy_72 : decode cX7_ferryBy 72 = .ok (.istore 6, 2) := by decide +kernel
theorem dX7_ferryBy_74 : decode cX7_ferryBy 74 = .ok (.iload_n 3, 1) := by decide +kernel
theorem dX7_ferryBy_75 : decode cX7_ferryBy 75 = .ok (.iload 6, 2) := by decide +kernel
theorem dX7_ferryBy_77 : decode cX7_ferryBy 77 = .ok (.aload_n 0, 1) := by decide +kernel
theorem dX7_ferryBy_78 : decode cX7_ferryBy 78 = .ok (.getfield 22, 3) := by decide +kernel
theorem dX7_ferryBy_81 : decode cX7_ferryBy 81 = .ok (.aload_n 0, 1) := by decide +kernel
theorem dX7_ferryBy_82 : decode cX7_ferryBy 82 = .ok (.getfield 70, 3) := by decide +kernel
theorem dX7_ferryBy_85 : decode cX7_ferryBy 85 = .ok (.iload 4, 2) := by decide +kernel
theorem dX7_ferryBy_87 : decode cX7_ferryBy 87 = .ok (.iaload, 1) := by decide +kernel
theorem dX7_ferryBy_88 : decode cX7_ferryBy 88 = .ok (.iaload, 1) := by decide +kernel
theorem dX7_ferryBy_89 : decode cX7_ferryBy 89 = .ok (.isub, 1) := by decide +kernel
theorem dX7_ferryBy_90 : decode cX7_ferryBy 90 = .ok (.iadd, 1) := by decide +kernel
theorem dX7_ferryBy_91 : decode cX7_ferryBy 91 = .ok (.istore_n 3, 1) := by decide +kernel
theorem dX7_ferryBy_92 : decode cX7_ferryBy 92 = .ok (.iinc 4 1, 3) := by decide +kernel
theorem dX7_ferryBy_95 : decode cX7_ferryBy 95 = .ok (.goto (-86), 3) := by decide +kernel
theorem dX7_ferryBy_98 : decode cX7_ferryBy 98 = .ok (.iload_n 3, 1) := by decide +kernel
theorem dX7_ferryBy_99 : decode cX7_ferryBy 99 = .ok (.ireturn, 1) := by decide +kernel
theorem dX7_timesBy_0 : decode cX7_timesBy 0 = .ok (.iconst 0, 1) := by decide +kernel
theorem dX7_timesBy_1 : decode cX7_timesBy 1 = .ok (.istore_n 2, 1) := by decide +kernel
theorem dX7_timesBy_2 : decode cX7_timesBy 2 = .ok (.iconst 0, 1) := by decide +kernel
theorem dX7_timesBy_3 : decode cX7_timesBy 3 = .ok (.istore_n 3, 1) := by decide +kernel
theorem dX7_timesBy_4 : decode cX7_timesBy 4 = .ok (.iload_n 3, 1) := by decide +kernel
theorem dX7_timesBy_5 : decode cX7_timesBy 5 = .ok (.aload_n 0, 1) := by decide +kernel
theorem dX7_timesBy_6 : decode cX7_timesBy 6 = .ok (.getfield 77, 3) := by decide +kernel
theorem dX7_timesBy_9 : decode cX7_timesBy 9 = .ok (.if_icmp .ge 24, 3) := by decide +kernel
theorem dX7_timesBy_12 : decode cX7_timesBy 12 = .ok (.iload_n 2, 1) := by decide +kernel
theorem dX7_timesBy_13 : decode cX7_timesBy 13 = .ok (.iload_n 1, 1) := by decide +kernel
theorem dX7_timesBy_14 : decode cX7_timesBy 14 = .ok (.aload_n 0, 1) := by decide +kernel
theorem dX7_timesBy_15 : decode cX7_timesBy 15 = .ok (.getfield 22, 3) := by decide +kernel
theorem dX7_timesBy_18 : decode cX7_timesBy 18 = .ok (.iload_n 3, 1) := by decide +kernel
theorem dX7_timesBy_19 : decode cX7_timesBy 19 = .ok (.iaload, 1) := by decide +kernel
theorem dX7_timesBy_20 : decode cX7_timesBy 20 = .ok (.iload_n 1, 1) := by decide +kernel
theorem dX7_timesBy_21 : decode cX7_timesBy 21 = .ok (.irem, 1) := by decide +kernel
theorem dX7_timesBy_22 : decode cX7_timesBy 22 = .ok (.isub, 1) := by decide +kernel
theorem dX7_timesBy_23 : decode cX7_timesBy 23 = .ok (.iload_n 1, 1) := by decide +kernel
theorem dX7_timesBy_24 : decode cX7_timesBy 24 = .ok (.irem, 1) := by decide +kernel
theorem dX7_timesBy_25 : decode cX7_timesBy 25 = .ok (.iadd, 1) := by decide +kernel
theorem dX7_timesBy_26 : decode cX7_timesBy 26 = .ok (.istore_n 2, 1) := by decide +kernel
theorem dX7_timesBy_27 : decode cX7_timesBy 27 = .ok (.iinc 3 1, 3) := by decide +kernel
theorem dX7_timesBy_30 : decode cX7_timesBy 30 = .ok (.goto (-26), 3) := by decide +kernel
theorem dX7_timesBy_33 : decode cX7_timesBy 33 = .ok (.iload_n 2, 1) := by decide +kernel
theorem dX7_timesBy_34 : decode cX7_timesBy 34 = .ok (.ireturn, 1) := by decide +kernel
theorem dX7_ferry_0 : decode cX7_ferry 0 = .ok (.iload_n 1, 1) := by decide +kernel
theorem dX7_ferry_1 : decode cX7_ferry 1 = .ok (.iconst 1, 1) := by decide +kernel
theorem dX7_ferry_2 : decode cX7_ferry 2 = .ok (.if_icmp .lt 7, 3) := by decide +kernel
theorem dX7_ferry_5 : decode cX7_ferry 5 = .ok (.iload_n 2, 1) := by decide +kernel
theorem dX7_ferry_6 : decode cX7_ferry 6 = .ok (.ifCond .ge 8, 3) := by decide +kernel
theorem dX7_ferry_9 : decode cX7_ferry 9 = .ok (.bipush (-4), 2) := by decide +kernel
theorem dX7_ferry_11 : decode cX7_ferry 11 = .ok (.goto 21, 3) := by decide +kernel
theorem dX7_ferry_14 : decode cX7_ferry 14 = .ok (.iload_n 1, 1) := by decide +kernel
theorem dX7_ferry_15 : decode cX7_ferry 15 = .ok (.bipush 8, 2) := by decide +kernel
theorem dX7_ferry_17 : decode cX7_ferry 17 = .ok (.if_icmp .gt 9, 3) := by decide +kernel
theorem dX7_ferry_20 : decode cX7_ferry 20 = .ok (.iload_n 2, 1) := by decide +kernel
theorem dX7_ferry_21 : decode cX7_ferry 21 = .ok (.bipush 60, 2) := by decide +kernel
theorem dX7_ferry_23 : decode cX7_ferry 23 = .ok (.if_icmp .le 8, 3) := by decide +kernel
theorem dX7_ferry_26 : decode cX7_ferry 26 = .ok (.bipush (-6), 2) := by decide +kernel
theorem dX7_ferry_28 : decode cX7_ferry 28 = .ok (.goto 4, 3) := by decide +kernel
theorem dX7_ferry_31 : decode cX7_ferry 31 = .ok (.iconst 0, 1) := by decide +kernel
theorem dX7_ferry_32 : decode cX7_ferry 32 = .ok (.istore_n 3, 1) := by decide +kernel
theorem dX7_ferry_33 : decode cX7_ferry 33 = .ok (.iload_n 3, 1) := by decide +kernel
theorem dX7_ferry_34 : decode cX7_ferry 34 = .ok (.ifCond .eq 11, 3) := by decide +kernel
theorem dX7_ferry_37 : decode cX7_ferry 37 = .ok (.aload_n 0, 1) := by decide +kernel
theorem dX7_ferry_38 : decode cX7_ferry 38 = .ok (.iload_n 3, 1) := by decide +kernel
theorem dX7_ferry_39 : decode cX7_ferry 39 = .ok (.invokevirtual 88, 3) := by decide +kernel
theorem dX7_ferry_42 : decode cX7_ferry 42 = .ok (.goto 9, 3) := by decide +kernel
theorem dX7_ferry_45 : decode cX7_ferry 45 = .ok (.aload_n 0, 1) := by decide +kernel
theorem dX7_ferry_46 : decode cX7_ferry 46 = .ok (.iload_n 1, 1) := by decide +kernel
theorem dX7_ferry_47 : decode cX7_ferry 47 = .ok (.iload_n 2, 1) := by decide +kernel
theorem dX7_ferry_48 : decode cX7_ferry 48 = .ok (.invokevirtual 255, 3) := by decide +kernel
theorem dX7_ferry_51 : decode cX7_ferry 51 = .ok (.ireturn, 1) := by decide +kernel
theorem dX7_times_0 : decode cX7_times 0 = .ok (.iload_n 1, 1) := by decide +kernel
theorem dX7_times_1 : decode cX7_times 1 = .ok (.iconst 1, 1) := by decide +kernel
theorem dX7_times_2 : decode cX7_times 2 = .ok (.bipush 60, 2) := by decide +kernel
theorem dX7_times_4 : decode cX7_times 4 = .ok (.invokestatic 81, 3) := by decide +kernel
theorem dX7_times_7 : decode cX7_times 7 = .ok (.istore_n 2, 1) := by decide +kernel
theorem dX7_times_8 : decode cX7_times 8 = .ok (.iload_n 2, 1) := by decide +kernel
theorem dX7_times_9 : decode cX7_times 9 = .ok (.ifCond .eq 11, 3) := by decide +kernel
theorem dX7_times_12 : decode cX7_times 12 = .ok (.aload_n 0, 1) := by decide +kernel
theorem dX7_times_13 : decode cX7_times 13 = .ok (.iload_n 2, 1) := by decide +kernel
theorem dX7_times_14 : decode cX7_times 14 = .ok (.invokevirtual 88, 3) := by decide +kernel
theorem dX7_times_17 : decode cX7_times 17 = .ok (.goto 8, 3) := by decide +kernel
theorem dX7_times_20 : decode cX7_times 20 = .ok (.aload_n 0, 1) := by decide +kernel
theorem dX7_times_21 : decode cX7_times 21 = .ok (.iload_n 1, 1) := by decide +kernel
theorem dX7_times_22 : decode cX7_times 22 = .ok (.invokevirtual 258, 3) := by decide +kernel
theorem dX7_times_25 : decode cX7_times 25 = .ok (.ireturn, 1) := by decide +kernel
theorem dX7_better_0 : decode cX7_better 0 = .ok (.iload_n 1, 1) := by decide +kernel
theorem dX7_better_1 : decode cX7_better 1 = .ok (.iconst 1, 1) := by decide +kernel
theorem dX7_better_2 : decode cX7_better 2 = .ok (.bipush 60, 2) := by decide +kernel
theorem dX7_better_4 : decode cX7_better 4 = .ok (.invokestatic 81, 3) := by decide +kernel
theorem dX7_better_7 : decode cX7_better 7 = .ok (.istore_n 2, 1) := by decide +kernel
theorem dX7_better_8 : decode cX7_better 8 = .ok (.iload_n 2, 1) := by decide +kernel
theorem dX7_better_9 : decode cX7_better 9 = .ok (.ifCond .eq 9, 3) := by decide +kernel
theorem dX7_better_12 : decode cX7_better 12 = .ok (.aload_n 0, 1) := by decide +kernel
theorem dX7_better_13 : decode cX7_better 13 = .ok (.iload_n 2, 1) := by decide +kernel
theorem dX7_better_14 : decode cX7_better 14 = .ok (.invokevirtual 88, 3) := by decide +kernel
theorem dX7_better_17 : decode cX7_better 17 = .ok (.ireturn, 1) := by decide +kernel
theorem dX7_better_18 : decode cX7_better 18 = .ok (.bipush (-9), 2) := by decide +kernel
theorem dX7_better_20 : decode cX7_better 20 = .ok (.istore_n 3, 1) := by decide +kernel
theorem dX7_better_21 : decode cX7_better 21 = .ok (.aload_n 0, 1) := by decide +kernel
theorem dX7_better_22 : decode cX7_better 22 = .ok (.iload_n 1, 1) := by decide +kernel
theorem dX7_better_23 : decode cX7_better 23 = .ok (.invokevirtual 258, 3) := by decide +kernel
theorem dX7_better_26 : decode cX7_better 26 = .ok (.istore 4, 2) := by decide +kernel
theorem dX7_better_28 : decode cX7_better 28 = .ok (.iconst 1, 1) := by decide +kernel
theorem dX7_better_29 : decode cX7_better 29 = .ok (.istore 5, 2) := by decide +kernel
theorem dX7_better_31 : decode cX7_better 31 = .ok (.iload 5, 2) := by decide +kernel
theorem dX7_better_33 : decode cX7_better 33 = .ok (.bipush 9, 2) := by decide +kernel
theorem dX7_better_35 : decode cX7_better 35 = .ok (.if_icmp .ge 35, 3) := by decide +kernel
theorem dX7_better_38 : decode cX7_better 38 = .ok (.aload_n 0, 1) := by decide +kernel
theorem dX7_better_39 : decode cX7_better 39 = .ok (.iload 5, 2) := by decide +kernel
theorem dX7_better_41 : decode cX7_better 41 = .ok (.iload_n 1, 1) := by decide +kernel
theorem dX7_better_42 : decode cX7_better 42 = .ok (.invokevirtual 255, 3) := by decide +kernel
theorem dX7_better_45 : decode cX7_better 45 = .ok (.istore 6, 2) := by decide +kernel
theorem dX7_better_47 : decode cX7_better 47 = .ok (.iload 6, 2) := by decide +kernel
theorem dX7_better_49 : decode cX7_better 49 = .ok (.iload 4, 2) := by decide +kernel
theorem dX7_better_51 : decode cX7_better 51 = .ok (.if_icmp .lt 6, 3) := by decide +kernel
theorem dX7_better_54 : decode cX7_better 54 = .ok (.goto 10, 3) := by decide +kernel
theorem dX7_better_57 : decode cX7_better 57 = .ok (.iload 5, 2) := by decide +kernel
theorem dX7_better_59 : decode cX7_better 59 = .ok (.istore_n 3, 1) := by decide +kernel
theorem dX7_better_60 : decode cX7_better 60 = .ok (.iload 6, 2) := by decide +kernel
theorem dX7_better_62 : decode cX7_better 62 = .ok (.istore 4, 2) := by decide +kernel
theorem dX7_better_64 : decode cX7_better 64 = .ok (.iinc 5 1, 3) := by decide +kernel
theorem dX7_better_67 : decode cX7_better 67 = .ok (.goto (-36), 3) := by decide +kernel
theorem dX7_better_70 : decode cX7_better 70 = .ok (.iload_n 3, 1) := by decide +kernel
theorem dX7_better_71 : decode cX7_better 71 = .ok (.ireturn, 1) := by decide +kernel
theorem dX7_follow_0 : decode cX7_follow 0 = .ok (.aload_n 0, 1) := by decide +kernel
theorem dX7_follow_1 : decode cX7_follow 1 = .ok (.iconst 1, 1) := by decide +kernel
theorem dX7_follow_2 : decode cX7_follow 2 = .ok (.iconst 1, 1) := by decide +kernel
theorem dX7_follow_3 : decode cX7_follow 3 = .ok (.invokevirtual 139, 3) := by decide +kernel
theorem dX7_follow_6 : decode cX7_follow 6 = .ok (.bipush (-9), 2) := by decide +kernel
theorem dX7_follow_8 : decode cX7_follow 8 = .ok (.istore_n 1, 1) := by decide +kernel
theorem dX7_follow_9 : decode cX7_follow 9 = .ok (.ldc 76, 2) := by decide +kernel
theorem dX7_follow_11 : decode cX7_follow 11 = .ok (.istore_n 2, 1) := by decide +kernel
theorem dX7_follow_12 : decode cX7_follow 12 = .ok (.iconst 0, 1) := by decide +kernel
theorem dX7_follow_13 : decode cX7_follow 13 = .ok (.istore_n 3, 1) := by decide +kernel
theorem dX7_follow_14 : decode cX7_follow 14 = .ok (.iload_n 3, 1) := by decide +kernel
theorem dX7_follow_15 : decode cX7_follow 15 = .ok (.aload_n 0, 1) := by decide +kernel
theorem dX7_follow_16 : decode cX7_follow 16 = .ok (.getfield 77, 3) := by decide +kernel
theorem dX7_follow_19 : decode cX7_follow 19 = .ok (.if_icmp .ge 87, 3) := by decide +kernel
theorem dX7_follow_22 : decode cX7_follow 22 = .ok (.aload_n 0, 1) := by decide +kernel
theorem dX7_follow_23 : decode cX7_follow 23 = .ok (.iconst 1, 1) := by decide +kernel
theorem dX7_follow_24 : decode cX7_follow 24 = .ok (.iconst 0, 1) := by decide +kernel
theorem dX7_follow_25 : decode cX7_follow 25 = .ok (.invokevirtual 139, 3) := by decide +kernel
theorem dX7_follow_28 : decode cX7_follow 28 = .ok (.aload_n 0, 1) := by decide +kernel
theorem dX7_follow_29 : decode cX7_follow 29 = .ok (.getfield 16, 3) := by decide +kernel
theorem dX7_follow_32 : decode cX7_follow 32 = .ok (.iload_n 3, 1) := by decide +kernel
theorem dX7_follow_33 : decode cX7_follow 33 = .ok (.iaload, 1) := by decide +kernel
theorem dX7_follow_34 : decode cX7_follow 34 = .ok (.istore 4, 2) := by decide +kernel
theorem dX7_follow_36 : decode cX7_follow 36 = .ok (.aload_n 0, 1) := by decide +kernel
theorem dX7_follow_37 : decode cX7_follow 37 = .ok (.getfield 19, 3) := by decide +kernel
theorem dX7_follow_40 : decode cX7_follow 40 = .ok (.iload_n 3, 1) := by decide +kernel
theorem dX7_follow_41 : decode cX7_follow 41 = .ok (.iaload, 1) := by decide +kernel
theorem dX7_follow_42 : decode cX7_follow 42 = .ok (.istore 5, 2) := by decide +kernel
theorem dX7_follow_44 : decode cX7_follow 44 = .ok (.iconst 0, 1) := by decide +kernel
theorem dX7_follow_45 : decode cX7_follow 45 = .ok (.istore 6, 2) := by decide +kernel
theorem dX7_follow_47 : decode cX7_follow 47 = .ok (.iload 6, 2) := by decide +kernel
theorem dX7_follow_49 : decode cX7_follow 49 = .ok (.aload_n 0, 1) := by decide +kernel
theorem dX7_follow_50 : decode cX7_follow 50 = .ok (.getfield 77, 3) := by decide +kernel
theorem dX7_follow_53 : decode cX7_follow 53 = .ok (.if_icmp .ge 27, 3) := by decide +kernel
theorem dX7_follow_56 : decode cX7_follow 56 = .ok (.aload_n 0, 1) := by decide +kernel
theorem dX7_follow_57 : decode cX7_follow 57 = .ok (.getfield 16, 3) := by decide +kernel
theorem dX7_follow_60 : decode cX7_follow 60 = .ok (.iload 6, 2) := by decide +kernel
theorem dX7_follow_62 : decode cX7_follow 62 = .ok (.iload 4, 2) := by decide +kernel
theorem dX7_follow_64 : decode cX7_follow 64 = .ok (.iastore, 1) := by decide +kernel
theorem dX7_follow_65 : decode cX7_follow 65 = .ok (.aload_n 0, 1) := by decide +kernel
theorem dX7_follow_66 : decode cX7_follow 66 = .ok (.getfield 19, 3) := by decide +kernel
theorem dX7_follow_69 : decode cX7_follow 69 = .ok (.iload 6, 2) := by decide +kernel
theorem dX7_follow_71 : decode cX7_follow 71 = .ok (.iload 5, 2) := by decide +kernel
theorem dX7_follow_73 : decode cX7_follow 73 = .ok (.iastore, 1) := by decide +kernel
theorem dX7_follow_74 : decode cX7_follow 74 = .ok (.iinc 6 1, 3) := by decide +kernel
theorem dX7_follow_77 : decode cX7_follow 77 = .ok (.goto (-30), 3) := by decide +kernel
theorem dX7_follow_80 : decode cX7_follow 80 = .ok (.aload_n 0, 1) := by decide +kernel
theorem dX7_follow_81 : decode cX7_follow 81 = .ok (.invokevirtual 228, 3) := by decide +kernel
theorem dX7_follow_84 : decode cX7_follow 84 = .ok (.istore 6, 2) := by decide +kernel
theorem dX7_follow_86 : decode cX7_follow 86 = .ok (.iload 6, 2) := by decide +kernel
theorem dX7_follow_88 : decode cX7_follow 88 = .ok (.iload_n 2, 1) := by decide +kernel
theorem dX7_follow_89 : decode cX7_follow 89 = .ok (.if_icmp .lt 6, 3) := by decide +kernel
theorem dX7_follow_92 : decode cX7_follow 92 = .ok (.goto 8, 3) := by decide +kernel
theorem dX7_follow_95 : decode cX7_follow 95 = .ok (.iload_n 3, 1) := by decide +kernel
theorem dX7_follow_96 : decode cX7_follow 96 = .ok (.istore_n 1, 1) := by decide +kernel
theorem dX7_follow_97 : decode cX7_follow 97 = .ok (.iload 6, 2) := by decide +kernel
theorem dX7_follow_99 : decode cX7_follow 99 = .ok (.istore_n 2, 1) := by decide +kernel
theorem dX7_follow_100 : decode cX7_follow 100 = .ok (.iinc 3 1, 3) := by decide +kernel
theorem dX7_follow_103 : decode cX7_follow 103 = .ok (.goto (-89), 3) := by decide +kernel
theorem dX7_follow_106 : decode cX7_follow 106 = .ok (.aload_n 0, 1) := by decide +kernel
theorem dX7_follow_107 : decode cX7_follow 107 = .ok (.iconst 1, 1) := by decide +kernel
theorem dX7_follow_108 : decode cX7_follow 108 = .ok (.iconst 0, 1) := by decide +kernel
theorem dX7_follow_109 : decode cX7_follow 109 = .ok (.invokevirtual 139, 3) := by decide +kernel
theorem dX7_follow_112 : decode cX7_follow 112 = .ok (.iload_n 1, 1) := by decide +kernel
theorem dX7_follow_113 : decode cX7_follow 113 = .ok (.ireturn, 1) := by decide +kernel
theorem dX7_row_0 : decode cX7_row 0 = .ok (.iload_n 1, 1) := by decide +kernel
theorem dX7_row_1 : decode cX7_row 1 = .ok (.iconst 0, 1) := by decide +kernel
theorem dX7_row_2 : decode cX7_row 2 = .ok (.bipush 99, 2) := by decide +kernel
theorem dX7_row_4 : decode cX7_row 4 = .ok (.invokestatic 81, 3) := by decide +kernel
theorem dX7_row_7 : decode cX7_row 7 = .ok (.istore_n 2, 1) := by decide +kernel
theorem dX7_row_8 : decode cX7_row 8 = .ok (.iload_n 2, 1) := by decide +kernel
theorem dX7_row_9 : decode cX7_row 9 = .ok (.ifCond .ne 15, 3) := by decide +kernel
theorem dX7_row_12 : decode cX7_row 12 = .ok (.aload_n 0, 1) := by decide +kernel
theorem dX7_row_13 : decode cX7_row 13 = .ok (.getfield 261, 3) := by decide +kernel
theorem dX7_row_16 : decode cX7_row 16 = .ok (.bipush 12, 2) := by decide +kernel
theorem dX7_row_18 : decode cX7_row 18 = .ok (.if_icmp .ne 6, 3) := by decide +kernel
theorem dX7_row_21 : decode cX7_row 21 = .ok (.bipush (-6), 2) := by decide +kernel
theorem dX7_row_23 : decode cX7_row 23 = .ok (.istore_n 2, 1) := by decide +kernel
theorem dX7_row_24 : decode cX7_row 24 = .ok (.iload_n 2, 1) := by decide +kernel
theorem dX7_row_25 : decode cX7_row 25 = .ok (.ifCond .eq 9, 3) := by decide +kernel
theorem dX7_row_28 : decode cX7_row 28 = .ok (.aload_n 0, 1) := by decide +kernel
theorem dX7_row_29 : decode cX7_row 29 = .ok (.iload_n 2, 1) := by decide +kernel
theorem dX7_row_30 : decode cX7_row 30 = .ok (.invokevirtual 88, 3) := by decide +kernel
theorem dX7_row_33 : decode cX7_row 33 = .ok (.ireturn, 1) := by decide +kernel
theorem dX7_row_34 : decode cX7_row 34 = .ok (.aload_n 0, 1) := by decide +kernel
theorem dX7_row_35 : decode cX7_row 35 = .ok (.getfield 73, 3) := by decide +kernel
theorem dX7_row_38 : decode cX7_row 38 = .ok (.aload_n 0, 1) := by decide +kernel
theorem dX7_row_39 : decode cX7_row 39 = .ok (.getfield 261, 3) := by decide +kernel
theorem dX7_row_42 : decode cX7_row 42 = .ok (.iload_n 1, 1) := by decide +kernel
theorem dX7_row_43 : decode cX7_row 43 = .ok (.iastore, 1) := by decide +kernel
theorem dX7_row_44 : decode cX7_row 44 = .ok (.aload_n 0, 1) := by decide +kernel
theorem dX7_row_45 : decode cX7_row 45 = .ok (.dup, 1) := by decide +kernel
theorem dX7_row_46 : decode cX7_row 46 = .ok (.getfield 261, 3) := by decide +kernel
theorem dX7_row_49 : decode cX7_row 49 = .ok (.iconst 1, 1) := by decide +kernel
theorem dX7_row_50 : decode cX7_row 50 = .ok (.iadd, 1) := by decide +kernel
theorem dX7_row_51 : decode cX7_row 51 = .ok (.putfield 261, 3) := by decide +kernel
theorem dX7_row_54 : decode cX7_row 54 = .ok (.aload_n 0, 1) := by decide +kernel
theorem dX7_row_55 : decode cX7_row 55 = .ok (.getfield 261, 3) := by decide +kernel
theorem dX7_row_58 : decode cX7_row 58 = .ok (.ireturn, 1) := by decide +kernel
theorem dX7_judge_0 : decode cX7_judge 0 = .ok (.aload_n 0, 1) := by decide +kernel
theorem dX7_judge_1 : decode cX7_judge 1 = .ok (.getfield 261, 3) := by decide +kernel
theorem dX7_judge_4 : decode cX7_judge 4 = .ok (.istore_n 1, 1) := by decide +kernel
theorem dX7_judge_5 : decode cX7_judge 5 = .ok (.aload_n 0, 1) := by decide +kernel
theorem dX7_judge_6 : decode cX7_judge 6 = .ok (.iconst 0, 1) := by decide +kernel
theorem dX7_judge_7 : decode cX7_judge 7 = .ok (.putfield 261, 3) := by decide +kernel
theorem dX7_judge_10 : decode cX7_judge 10 = .ok (.aload_n 0, 1) := by decide +kernel
theorem dX7_judge_11 : decode cX7_judge 11 = .ok (.iconst 1, 1) := by decide +kernel
theorem dX7_judge_12 : decode cX7_judge 12 = .ok (.iconst 1, 1) := by decide +kernel
theorem dX7_judge_13 : decode cX7_judge 13 = .ok (.invokevirtual 139, 3) := by decide +kernel
theorem dX7_judge_16 : decode cX7_judge 16 = .ok (.bipush (-9), 2) := by decide +kernel
theorem dX7_judge_18 : decode cX7_judge 18 = .ok (.istore_n 2, 1) := by decide +kernel
theorem dX7_judge_19 : decode cX7_judge 19 = .ok (.iconst 0, 1) := by decide +kernel
theorem dX7_judge_20 : decode cX7_judge 20 = .ok (.istore_n 3, 1) := by decide +kernel
theorem dX7_judge_21 : decode cX7_judge 21 = .ok (.iload_n 3, 1) := by decide +kernel
theorem dX7_judge_22 : decode cX7_judge 22 = .ok (.iload_n 1, 1) := by decide +kernel
theorem dX7_judge_23 : decode cX7_judge 23 = .ok (.if_icmp .ge 46, 3) := by decide +kernel
theorem dX7_judge_26 : decode cX7_judge 26 = .ok (.iload_n 2, 1) := by decide +kernel
theorem dX7_judge_27 : decode cX7_judge 27 = .ok (.ifCond .ge 42, 3) := by decide +kernel
theorem dX7_judge_30 : decode cX7_judge 30 = .ok (.aload_n 0, 1) := by decide +kernel
theorem dX7_judge_31 : decode cX7_judge 31 = .ok (.invokevirtual 207, 3) := by decide +kernel
theorem dX7_judge_34 : decode cX7_judge 34 = .ok (.ifCond .ne 7, 3) := by decide +kernel
theorem dX7_judge_37 : decode cX7_judge 37 = .ok (.aload_n 0, 1) := by decide +kernel
theorem dX7_judge_38 : decode cX7_judge 38 = .ok (.invokevirtual 210, 3) := by decide +kernel
theorem dX7_judge_41 : decode cX7_judge 41 = .ok (.aload_n 0, 1) := by decide +kernel
theorem dX7_judge_42 : decode cX7_judge 42 = .ok (.getfield 40, 3) := by decide +kernel
theorem dX7_judge_45 : decode cX7_judge 45 = .ok (.iconst 0, 1) := by decide +kernel
theorem dX7_judge_46 : decode cX7_judge 46 = .ok (.iaload, 1) := by decide +kernel
theorem dX7_judge_47 : decode cX7_judge 47 = .ok (.aload_n 0, 1) := by decide +kernel
theorem dX7_judge_48 : decode cX7_judge 48 = .ok (.getfield 73, 3) := by decide +kernel
theorem dX7_judge_51 : decode cX7_judge 51 = .ok (.iload_n 3, 1) := by decide +kernel
theorem dX7_judge_52 : decode cX7_judge 52 = .ok (.iaload, 1) := by decide +kernel
theorem dX7_judge_53 : decode cX7_judge 53 = .ok (.if_icmp .eq 7, 3) := by decide +kernel
theorem dX7_judge_56 : decode cX7_judge 56 = .ok (.iload_n 3, 1) := by decide +kernel
theorem dX7_judge_57 : decode cX7_judge 57 = .ok (.goto 5, 3) := by decide +kernel
theorem dX7_judge_60 : decode cX7_judge 60 = .ok (.bipush (-9), 2) := by decide +kernel
theorem dX7_judge_62 : decode cX7_judge 62 = .ok (.istore_n 2, 1) := by decide +kernel
theorem dX7_judge_63 : decode cX7_judge 63 = .ok (.iinc 3 1, 3) := by decide +kernel
theorem dX7_judge_66 : decode cX7_judge 66 = .ok (.goto (-45), 3) := by decide +kernel
theorem dX7_judge_69 : decode cX7_judge 69 = .ok (.aload_n 0, 1) := by decide +kernel
theorem dX7_judge_70 : decode cX7_judge 70 = .ok (.iconst 1, 1) := by decide +kernel
theorem dX7_judge_71 : decode cX7_judge 71 = .ok (.iconst 0, 1) := by decide +kernel
theorem dX7_judge_72 : decode cX7_judge 72 = .ok (.invokevirtual 139, 3) := by decide +kernel
theorem dX7_judge_75 : decode cX7_judge 75 = .ok (.iload_n 2, 1) := by decide +kernel
theorem dX7_judge_76 : decode cX7_judge 76 = .ok (.ireturn, 1) := by decide +kernel
theorem dX7_fits_0 : decode cX7_fits 0 = .ok (.iload_n 1, 1) := by decide +kernel
theorem dX7_fits_1 : decode cX7_fits 1 = .ok (.iconst 0, 1) := by decide +kernel
theorem dX7_fits_2 : decode cX7_fits 2 = .ok (.bipush 11, 2) := by decide +kernel
theorem dX7_fits_4 : decode cX7_fits 4 = .ok (.invokestatic 81, 3) := by decide +kernel
theorem dX7_fits_7 : decode cX7_fits 7 = .ok (.istore_n 2, 1) := by decide +kernel
theorem dX7_fits_8 : decode cX7_fits 8 = .ok (.iload_n 2, 1) := by decide +kernel
theorem dX7_fits_9 : decode cX7_fits 9 = .ok (.ifCond .eq 9, 3) := by decide +kernel
theorem dX7_fits_12 : decode cX7_fits 12 = .ok (.aload_n 0, 1) := by decide +kernel
theorem dX7_fits_13 : decode cX7_fits 13 = .ok (.iload_n 2, 1) := by decide +kernel
theorem dX7_fits_14 : decode cX7_fits 14 = .ok (.invokevirtual 88, 3) := by decide +kernel
theorem dX7_fits_17 : decode cX7_fits 17 = .ok (.ireturn, 1) := by decide +kernel
theorem dX7_fits_18 : decode cX7_fits 18 = .ok (.iconst 0, 1) := by decide +kernel
theorem dX7_fits_19 : decode cX7_fits 19 = .ok (.istore_n 3, 1) := by decide +kernel
theorem dX7_fits_20 : decode cX7_fits 20 = .ok (.iconst 0, 1) := by decide +kernel
theorem dX7_fits_21 : decode cX7_fits 21 = .ok (.istore 4, 2) := by decide +kernel
theorem dX7_fits_23 : decode cX7_fits 23 = .ok (.iload 4, 2) := by decide +kernel
theorem dX7_fits_25 : decode cX7_fits 25 = .ok (.bipush 7, 2) := by decide +kernel
theorem dX7_fits_27 : decode cX7_fits 27 = .ok (.if_icmp .ge 43, 3) := by decide +kernel
theorem dX7_fits_30 : decode cX7_fits 30 = .ok (.aload_n 0, 1) := by decide +kernel
theorem dX7_fits_31 : decode cX7_fits 31 = .ok (.getfield 160, 3) := by decide +kernel
theorem dX7_fits_34 : decode cX7_fits 34 = .ok (.ifCond .le 36, 3) := by decide +kernel
theorem dX7_fits_37 : decode cX7_fits 37 = .ok (.iload_n 3, 1) := by decide +kernel
theorem dX7_fits_38 : decode cX7_fits 38 = .ok (.aload_n 0, 1) := by decide +kernel
theorem dX7_fits_39 : decode cX7_fits 39 = .ok (.aload_n 0, 1) := by decide +kernel
theorem dX7_fits_40 : decode cX7_fits 40 = .ok (.getfield 37, 3) := by decide +kernel
theorem dX7_fits_43 : decode cX7_fits 43 = .ok (.iconst 0, 1) := by decide +kernel
theorem dX7_fits_44 : decode cX7_fits 44 = .ok (.iaload, 1) := by decide +kernel
theorem dX7_fits_45 : decode cX7_fits 45 = .ok (.iload 4, 2) := by decide +kernel
theorem dX7_fits_47 : decode cX7_fits 47 = .ok (.invokevirtual 175, 3) := by decide +kernel
theorem dX7_fits_50 : decode cX7_fits 50 = .ok (.iload_n 1, 1) := by decide +kernel
theorem dX7_fits_51 : decode cX7_fits 51 = .ok (.if_icmp .ne 10, 3) := by decide +kernel
theorem dX7_fits_54 : decode cX7_fits 54 = .ok (.iconst 1, 1) := by decide +kernel
theorem dX7_fits_55 : decode cX7_fits 55 = .ok (.iload 4, 2) := by decide +kernel
theorem dX7_fits_57 : decode cX7_fits 57 = .ok (.ishl, 1) := by decide +kernel
theorem dX7_fits_58 : decode cX7_fits 58 = .ok (.goto 4, 3) := by decide +kernel
theorem dX7_fits_61 : decode cX7_fits 61 = .ok (.iconst 0, 1) := by decide +kernel
theorem dX7_fits_62 : decode cX7_fits 62 = .ok (.ior, 1) := by decide +kernel
theorem dX7_fits_63 : decode cX7_fits 63 = .ok (.istore_n 3, 1) := by decide +kernel
theorem dX7_fits_64 : decode cX7_fits 64 = .ok (.iinc 4 1, 3) := by decide +kernel
theorem dX7_fits_67 : decode cX7_fits 67 = .ok (.goto (-44), 3) := by decide +kernel
theorem dX7_fits_70 : decode cX7_fits 70 = .ok (.iload_n 3, 1) := by decide +kernel
theorem dX7_fits_71 : decode cX7_fits 71 = .ok (.ireturn, 1) := by decide +kernel
theorem dX7_seeds_0 : decode cX7_seeds 0 = .ok (.iload_n 1, 1) := by decide +kernel
theorem dX7_seeds_1 : decode cX7_seeds 1 = .ok (.iconst 1, 1) := by decide +kernel
theorem dX7_seeds_2 : decode cX7_seeds 2 = .ok (.bipush 20, 2) := by decide +kernel
theorem dX7_seeds_4 : decode cX7_seeds 4 = .ok (.invokestatic 81, 3) := by decide +kernel
theorem dX7_seeds_7 : decode cX7_seeds 7 = .ok (.istore 4, 2) := by decide +kernel
theorem dX7_seeds_9 : decode cX7_seeds 9 = .ok (.iload 4, 2) := by decide +kernel
theorem dX7_seeds_11 : decode cX7_seeds 11 = .ok (.ifCond .ne 16, 3) := by decide +kernel
theorem dX7_seeds_14 : decode cX7_seeds 14 = .ok (.iload_n 3, 1) := by decide +kernel
theorem dX7_seeds_15 : decode cX7_seeds 15 = .ok (.iconst 0, 1) := by decide +kernel
theorem dX7_seeds_16 : decode cX7_seeds 16 = .ok (.iconst 1, 1) := by decide +kernel
theorem dX7_seeds_17 : decode cX7_seeds 17 = .ok (.invokestatic 99, 3) := by decide +kernel
theorem dX7_seeds_20 : decode cX7_seeds 20 = .ok (.ifCond .ne 7, 3) := by decide +kernel
theorem dX7_seeds_23 : decode cX7_seeds 23 = .ok (.bipush (-2), 2) := by decide +kernel
theorem dX7_seeds_25 : decode cX7_seeds 25 = .ok (.istore 4, 2) := by decide +kernel
theorem dX7_seeds_27 : decode cX7_seeds 27 = .ok (.iload 4, 2) := by decide +kernel
theorem dX7_seeds_29 : decode cX7_seeds 29 = .ok (.ifCond .eq 10, 3) := by decide +kernel
theorem dX7_seeds_32 : decode cX7_seeds 32 = .ok (.aload_n 0, 1) := by decide +kernel
theorem dX7_seeds_33 : decode cX7_seeds 33 = .ok (.iload 4, 2) := by decide +kernel
theorem dX7_seeds_35 : decode cX7_seeds 35 = .ok (.invokevirtual 88, 3) := by decide +kernel
theorem dX7_seeds_38 : decode cX7_seeds 38 = .ok (.ireturn, 1) := by decide +kernel
theorem dX7_seeds_39 : decode cX7_seeds 39 = .ok (.aload_n 0, 1) := by decide +kernel
theorem dX7_seeds_40 : decode cX7_seeds 40 = .ok (.iconst 1, 1) := by decide +kernel
theorem dX7_seeds_41 : decode cX7_seeds 41 = .ok (.iconst 1, 1) := by decide +kernel
theorem dX7_seeds_42 : decode cX7_seeds 42 = .ok (.invokevirtual 139, 3) := by decide +kernel
theorem dX7_seeds_45 : decode cX7_seeds 45 = .ok (.iload_n 2, 1) := by decide +kernel
theorem dX7_seeds_46 : decode cX7_seeds 46 = .ok (.istore 5, 2) := by decide +kernel
theorem dX7_seeds_48 : decode cX7_seeds 48 = .ok (.iconst 0, 1) := by decide +kernel
theorem dX7_seeds_49 : decode cX7_seeds 49 = .ok (.istore 6, 2) := by decide +kernel
theorem dX7_seeds_51 : decode cX7_seeds 51 = .ok (.iconst 0, 1) := by decide +kernel
theorem dX7_seeds_52 : decode cX7_seeds 52 = .ok (.istore 7, 2) := by decide +kernel
theorem dX7_seeds_54 : decode cX7_seeds 54 = .ok (.iconst 0, 1) := by decide +kernel
theorem dX7_seeds_55 : decode cX7_seeds 55 = .ok (.istore 8, 2) := by decide +kernel
theorem dX7_seeds_57 : decode cX7_seeds 57 = .ok (.iload 8, 2) := by decide +kernel
theorem dX7_seeds_59 : decode cX7_seeds 59 = .ok (.iload_n 1, 1) := by decide +kernel
theorem dX7_seeds_60 : decode cX7_seeds 60 = .ok (.if_icmp .ge 78, 3) := by decide +kernel
theorem dX7_seeds_63 : decode cX7_seeds 63 = .ok (.iconst 0, 1) := by decide +kernel
theorem dX7_seeds_64 : decode cX7_seeds 64 = .ok (.istore 9, 2) := by decide +kernel
theorem dX7_seeds_66 : decode cX7_seeds 66 = .ok (.iload 9, 2) := by decide +kernel
theorem dX7_seeds_68 : decode cX7_seeds 68 = .ok (.aload_n 0, 1) := by decide +kernel
theorem dX7_seeds_69 : decode cX7_seeds 69 = .ok (.getfield 77, 3) := by decide +kernel
theorem dX7_seeds_72 : decode cX7_seeds 72 = .ok (.if_icmp .ge 41, 3) := by decide +kernel
theorem dX7_seeds_75 : decode cX7_seeds 75 = .ok (.iload 5, 2) := by decide +kernel
theorem dX7_seeds_77 : decode cX7_seeds 77 = .ok (.ldc_w 264, 3) := by decide +kernel
theorem dX7_seeds_80 : decode cX7_seeds 80 = .ok (.imul, 1) := by decide +kernel
theorem dX7_seeds_81 : decode cX7_seeds 81 = .ok (.sipush 12345, 3) := by decide +kernel
theorem dX7_seeds_84 : decode cX7_seeds 84 = .ok (.iadd, 1) := by decide +kernel
theorem dX7_seeds_85 : decode cX7_seeds 85 = .ok (.istore 5, 2) := by decide +kernel
theorem dX7_seeds_87 : decode cX7_seeds 87 = .ok (.aload_n 0, 1) := by decide +kernel
theorem dX7_seeds_88 : decode cX7_seeds 88 = .ok (.getfield 22, 3) := by decide +kernel
theorem dX7_seeds_91 : decode cX7_seeds 91 = .ok (.iload 9, 2) := by decide +kernel
theorem dX7_seeds_93 : decode cX7_seeds 93 = .ok (.iload 5, 2) := by decide +kernel
theorem dX7_seeds_95 : decode cX7_seeds 95 = .ok (.ldc_w 265, 3) := by decide +kernel
theorem dX7_seeds_98 : decode cX7_seeds 98 = .ok (.iand, 1) := by decide +kernel
theorem dX7_seeds_99 : decode cX7_seeds 99 = .ok (.ldc_w 266, 3) := by decide +kernel
theorem dX7_seeds_102 : decode cX7_seeds 102 = .ok (.idiv, 1) := by decide +kernel
theorem dX7_seeds_103 : decode cX7_seeds 103 = .ok (.bipush 120, 2) := by decide +kernel
theorem dX7_seeds_105 : decode cX7_seeds 105 = .ok (.irem, 1) := by decide +kernel
theorem dX7_seeds_106 : decode cX7_seeds 106 = .ok (.iastore, 1) := by decide +kernel
theorem dX7_seeds_107 : decode cX7_seeds 107 = .ok (.iinc 9 1, 3) := by decide +kernel
theorem dX7_seeds_110 : decode cX7_seeds 110 = .ok (.goto (-44), 3) := by decide +kernel
theorem dX7_seeds_113 : decode cX7_seeds 113 = .ok (.iload 6, 2) := by decide +kernel
theorem dX7_seeds_115 : decode cX7_seeds 115 = .ok (.aload_n 0, 1) := by decide +kernel
theorem dX7_seeds_116 : decode cX7_seeds 116 = .ok (.invokevirtual 228, 3) := by decide +kernel
theorem dX7_seeds_119 : decode cX7_seeds 119 = .ok (.iadd, 1) := by decide +kernel
theorem dX7_seeds_120 : decode cX7_seeds 120 = .ok (.istore 6, 2) := by decide +kernel
theorem dX7_seeds_122 : decode cX7_seeds 122 = .ok (.iload 7, 2) := by decide +kernel
theorem dX7_seeds_124 : decode cX7_seeds 124 = .ok (.aload_n 0, 1) := by decide +kernel
theorem dX7_seeds_125 : decode cX7_seeds 125 = .ok (.iconst 3, 1) := by decide +kernel
theorem dX7_seeds_126 : decode cX7_seeds 126 = .ok (.invokevirtual 216, 3) := by decide +kernel
theorem dX7_seeds_129 : decode cX7_seeds 129 = .ok (.iadd, 1) := by decide +kernel
theorem dX7_seeds_130 : decode cX7_seeds 130 = .ok (.istore 7, 2) := by decide +kernel
theorem dX7_seeds_132 : decode cX7_seeds 132 = .ok (.iinc 8 1, 3) := by decide +kernel
theorem dX7_seeds_135 : decode cX7_seeds 135 = .ok (.goto (-78), 3) := by decide +kernel
theorem dX7_seeds_138 : decode cX7_seeds 138 = .ok (.aload_n 0, 1) := by decide +kernel
theorem dX7_seeds_139 : decode cX7_seeds 139 = .ok (.iconst 1, 1) := by decide +kernel
theorem dX7_seeds_140 : decode cX7_seeds 140 = .ok (.iconst 0, 1) := by decide +kernel
theorem dX7_seeds_141 : decode cX7_seeds 141 = .ok (.invokevirtual 139, 3) := by decide +kernel
theorem dX7_seeds_144 : decode cX7_seeds 144 = .ok (.iload_n 3, 1) := by decide +kernel
theorem dX7_seeds_145 : decode cX7_seeds 145 = .ok (.ifCond .ne 8, 3) := by decide +kernel
theorem dX7_seeds_148 : decode cX7_seeds 148 = .ok (.iload 6, 2) := by decide +kernel
theorem dX7_seeds_150 : decode cX7_seeds 150 = .ok (.goto 5, 3) := by decide +kernel
theorem dX7_seeds_153 : decode cX7_seeds 153 = .ok (.iload 7, 2) := by decide +kernel
theorem dX7_seeds_155 : decode cX7_seeds 155 = .ok (.ireturn, 1) := by decide +kernel
theorem dX7_count_0 : decode cX7_count 0 = .ok (.iload_n 1, 1) := by decide +kernel
theorem dX7_count_1 : decode cX7_count 1 = .ok (.bipush 11, 2) := by decide +kernel
theorem dX7_count_3 : decode cX7_count 3 = .ok (.bipush 16, 2) := by decide +kernel
theorem dX7_count_5 : decode cX7_count 5 = .ok (.invokestatic 99, 3) := by decide +kernel
theorem dX7_count_8 : decode cX7_count 8 = .ok (.ifCond .eq 13, 3) := by decide +kernel
theorem dX7_count_11 : decode cX7_count 11 = .ok (.aload_n 0, 1) := by decide +kernel
theorem dX7_count_12 : decode cX7_count 12 = .ok (.getfield 7, 3) := by decide +kernel
theorem dX7_count_15 : decode cX7_count 15 = .ok (.iload_n 1, 1) := by decide +kernel
theorem dX7_count_16 : decode cX7_count 16 = .ok (.bipush 10, 2) := by decide +kernel
theorem dX7_count_18 : decode cX7_count 18 = .ok (.isub, 1) := by decide +kernel
theorem dX7_count_19 : decode cX7_count 19 = .ok (.iaload, 1) := by decide +kernel
theorem dX7_count_20 : decode cX7_count 20 = .ok (.ireturn, 1) := by decide +kernel
theorem dX7_count_21 : decode cX7_count 21 = .ok (.iload_n 1, 1) := by decide +kernel
theorem dX7_count_22 : decode cX7_count 22 = .ok (.bipush 20, 2) := by decide +kernel
theorem dX7_count_24 : decode cX7_count 24 = .ok (.bipush 27, 2) := by decide +kernel
theorem dX7_count_26 : decode cX7_count 26 = .ok (.invokestatic 99, 3) := by decide +kernel
theorem dX7_count_29 : decode cX7_count 29 = .ok (.ifCond .eq 13, 3) := by decide +kernel
theorem dX7_count_32 : decode cX7_count 32 = .ok (.aload_n 0, 1) := by decide +kernel
theorem dX7_count_33 : decode cX7_count 33 = .ok (.getfield 13, 3) := by decide +kernel
theorem dX7_count_36 : decode cX7_count 36 = .ok (.iload_n 1, 1) := by decide +kernel
theorem dX7_count_37 : decode cX7_count 37 = .ok (.bipush 20, 2) := by decide +kernel
theorem dX7_count_39 : decode cX7_count 39 = .ok (.isub, 1) := by decide +kernel
theorem dX7_count_40 : decode cX7_count 40 = .ok (.iaload, 1) := by decide +kernel
theorem dX7_count_41 : decode cX7_count 41 = .ok (.ireturn, 1) := by decide +kernel
theorem dX7_count_42 : decode cX7_count 42 = .ok (.iload_n 1, 1) := by decide +kernel
theorem dX7_count_43 : decode cX7_count 43 = .ok (.tableswitch 104 0 8 #[49, 54, 59, 64, 70, 76, 89, 94, 99], 49) := by decide +kernel
theorem dX7_count_92 : decode cX7_count 92 = .ok (.aload_n 0, 1) := by decide +kernel
theorem dX7_count_93 : decode cX7_count 93 = .ok (.getfield 77, 3) := by decide +kernel
theorem dX7_count_96 : decode cX7_count 96 = .ok (.ireturn, 1) := by decide +kernel
theorem dX7_count_97 : decode cX7_count 97 = .ok (.aload_n 0, 1) := by decide +kernel
theorem dX7_count_98 : decode cX7_count 98 = .ok (.getfield 122, 3) := by decide +kernel
theorem dX7_count_101 : decode cX7_count 101 = .ok (.ireturn, 1) := by decide +kernel
theorem dX7_count_102 : decode cX7_count 102 = .ok (.aload_n 0, 1) := by decide +kernel
theorem dX7_count_103 : decode cX7_count 103 = .ok (.getfield 160, 3) := by decide +kernel
theorem dX7_count_106 : decode cX7_count 106 = .ok (.ireturn, 1) := by decide +kernel
theorem dX7_count_107 : decode cX7_count 107 = .ok (.aload_n 0, 1) := by decide +kernel
theorem dX7_count_108 : decode cX7_count 108 = .ok (.iconst 2, 1) := by decide +kernel
theorem dX7_count_109 : decode cX7_count 109 = .ok (.invokevirtual 216, 3) := by decide +kernel
theorem dX7_count_112 : decode cX7_count 112 = .ok (.ireturn, 1) := by decide +kernel
theorem dX7_count_113 : decode cX7_count 113 = .ok (.aload_n 0, 1) := by decide +kernel
theorem dX7_count_114 : decode cX7_count 114 = .ok (.iconst 3, 1) := by decide +kernel
theorem dX7_count_115 : decode cX7_count 115 = .ok (.invokevirtual 216, 3) := by decide +kernel
theorem dX7_count_118 : decode cX7_count 118 = .ok (.ireturn, 1) := by decide +kernel
theorem dX7_count_119 : decode cX7_count 119 = .ok (.aload_n 0, 1) := by decide +kernel
theorem dX7_count_120 : decode cX7_count 120 = .ok (.invokevirtual 207, 3) := by decide +kernel
theorem dX7_count_123 : decode cX7_count 123 = .ok (.ifCond .eq 7, 3) := by decide +kernel
theorem dX7_count_126 : decode cX7_count 126 = .ok (.iconst 1, 1) := by decide +kernel
theorem dX7_count_127 : decode cX7_count 127 = .ok (.goto 4, 3) := by decide +kernel
theorem dX7_count_130 : decode cX7_count 130 = .ok (.iconst 0, 1) := by decide +kernel
theorem dX7_count_131 : decode cX7_count 131 = .ok (.ireturn, 1) := by decide +kernel
theorem dX7_count_132 : decode cX7_count 132 = .ok (.aload_n 0, 1) := by decide +kernel
theorem dX7_count_133 : decode cX7_count 133 = .ok (.invokevirtual 213, 3) := by decide +kernel
theorem dX7_count_136 : decode cX7_count 136 = .ok (.ireturn, 1) := by decide +kernel
theorem dX7_count_137 : decode cX7_count 137 = .ok (.aload_n 0, 1) := by decide +kernel
theorem dX7_count_138 : decode cX7_count 138 = .ok (.getfield 85, 3) := by decide +kernel
theorem dX7_count_141 : decode cX7_count 141 = .ok (.ireturn, 1) := by decide +kernel
theorem dX7_count_142 : decode cX7_count 142 = .ok (.aload_n 0, 1) := by decide +kernel
theorem dX7_count_143 : decode cX7_count 143 = .ok (.getfield 261, 3) := by decide +kernel
theorem dX7_count_146 : decode cX7_count 146 = .ok (.ireturn, 1) := by decide +kernel
theorem dX7_count_147 : decode cX7_count 147 = .ok (.bipush (-9), 2) := by decide +kernel
theorem dX7_count_149 : decode cX7_count 149 = .ok (.ireturn, 1) := by decide +kernel
theorem dJ9_floorMod_7cf53_0 : decode cJ9_floorMod_7cf53 0 = .ok (.iload_n 0, 1) := by decide +kernel
theorem dJ9_floorMod_7cf53_1 : decode cJ9_floorMod_7cf53 1 = .ok (.iload_n 1, 1) := by decide +kernel
theorem dJ9_floorMod_7cf53_2 : decode cJ9_floorMod_7cf53 2 = .ok (.irem, 1) := by decide +kernel
theorem dJ9_floorMod_7cf53_3 : decode cJ9_floorMod_7cf53 3 = .ok (.istore_n 2, 1) := by decide +kernel
theorem dJ9_floorMod_7cf53_4 : decode cJ9_floorMod_7cf53 4 = .ok (.iload_n 0, 1) := by decide +kernel
theorem dJ9_floorMod_7cf53_5 : decode cJ9_floorMod_7cf53 5 = .ok (.iload_n 1, 1) := by decide +kernel
theorem dJ9_floorMod_7cf53_6 : decode cJ9_floorMod_7cf53 6 = .ok (.ixor, 1) := by decide +kernel
theorem dJ9_floorMod_7cf53_7 : decode cJ9_floorMod_7cf53 7 = .ok (.ifCond .ge 11, 3) := by decide +kernel
theorem dJ9_floorMod_7cf53_10 : decode cJ9_floorMod_7cf53 10 = .ok (.iload_n 2, 1) := by decide +kernel
theorem dJ9_floorMod_7cf53_11 : decode cJ9_floorMod_7cf53 11 = .ok (.ifCond .eq 7, 3) := by decide +kernel
theorem dJ9_floorMod_7cf53_14 : decode cJ9_floorMod_7cf53 14 = .ok (.iload_n 2, 1) := by decide +kernel
theorem dJ9_floorMod_7cf53_15 : decode cJ9_floorMod_7cf53 15 = .ok (.iload_n 1, 1) := by decide +kernel
theorem dJ9_floorMod_7cf53_16 : decode cJ9_floorMod_7cf53 16 = .ok (.iadd, 1) := by decide +kernel
theorem dJ9_floorMod_7cf53_17 : decode cJ9_floorMod_7cf53 17 = .ok (.ireturn, 1) := by decide +kernel
theorem dJ9_floorMod_7cf53_18 : decode cJ9_floorMod_7cf53 18 = .ok (.iload_n 2, 1) := by decide +kernel
theorem dJ9_floorMod_7cf53_19 : decode cJ9_floorMod_7cf53 19 = .ok (.ireturn, 1) := by decide +kernel
theorem dJ9_max_7cf53_0 : decode cJ9_max_7cf53 0 = .ok (.iload_n 0, 1) := by decide +kernel
theorem dJ9_max_7cf53_1 : decode cJ9_max_7cf53 1 = .ok (.iload_n 1, 1) := by decide +kernel
theorem dJ9_max_7cf53_2 : decode cJ9_max_7cf53 2 = .ok (.if_icmp .lt 7, 3) := by decide +kernel
theorem dJ9_max_7cf53_5 : decode cJ9_max_7cf53 5 = .ok (.iload_n 0, 1) := by decide +kernel
theorem dJ9_max_7cf53_6 : decode cJ9_max_7cf53 6 = .ok (.goto 4, 3) := by decide +kernel
theorem dJ9_max_7cf53_9 : decode cJ9_max_7cf53 9 = .ok (.iload_n 1, 1) := by decide +kernel
theorem dJ9_max_7cf53_10 : decode cJ9_max_7cf53 10 = .ok (.ireturn, 1) := by decide +kernel
theorem dJ9_min_7cf53_0 : decode cJ9_min_7cf53 0 = .ok (.iload_n 0, 1) := by decide +kernel
theorem dJ9_min_7cf53_1 : decode cJ9_min_7cf53 1 = .ok (.iload_n 1, 1) := by decide +kernel
theorem dJ9_min_7cf53_2 : decode cJ9_min_7cf53 2 = .ok (.if_icmp .gt 7, 3) := by decide +kernel
theorem dJ9_min_7cf53_5 : decode cJ9_min_7cf53 5 = .ok (.iload_n 0, 1) := by decide +kernel
theorem dJ9_min_7cf53_6 : decode cJ9_min_7cf53 6 = .ok (.goto 4, 3) := by decide +kernel
theorem dJ9_min_7cf53_9 : decode cJ9_min_7cf53 9 = .ok (.iload_n 1, 1) := by decide +kernel
theorem dJ9_min_7cf53_10 : decode cJ9_min_7cf53 10 = .ok (.ireturn, 1) := by decide +kernel
theorem dL_law_0 : decode cL_law 0 = .ok (.new 7, 3) := by decide +kernel
theorem dL_law_3 : decode cL_law 3 = .ok (.dup, 1) := by decide +kernel
theorem dL_law_4 : decode cL_law 4 = .ok (.invokespecial 9, 3) := by decide +kernel
theorem dL_law_7 : decode cL_law 7 = .ok (.astore_n 1, 1) := by decide +kernel
theorem dL_law_8 : decode cL_law 8 = .ok (.new 10, 3) := by decide +kernel
theorem dL_law_11 : decode cL_law 11 = .ok (.dup, 1) := by decide +kernel
theorem dL_law_12 : decode cL_law 12 = .ok (.invokespecial 12, 3) := by decide +kernel
theorem dL_law_15 : decode cL_law 15 = .ok (.astore_n 2, 1) := by decide +kernel
theorem dL_law_16 : decode cL_law 16 = .ok (.iconst 0, 1) := by decide +kernel
theorem dL_law_17 : decode cL_law 17 = .ok (.istore_n 3, 1) := by decide +kernel
theorem dL_law_18 : decode cL_law 18 = .ok (.iload_n 3, 1) := by decide +kernel
theorem dL_law_19 : decode cL_law 19 = .ok (.aload_n 0, 1) := by decide +kernel
theorem dL_law_20 : decode cL_law 20 = .ok (.arraylength, 1) := by decide +kernel
theorem dL_law_21 : decode cL_law 21 = .ok (.iconst 4, 1) := by decide +kernel
theorem dL_law_22 : decode cL_law 22 = .ok (.isub, 1) := by decide +kernel
theorem dL_law_23 : decode cL_law 23 = .ok (.if_icmp .gt 807, 3) := by decide +kernel
theorem dL_law_26 : decode cL_law 26 = .ok (.aload_n 0, 1) := by decide +kernel
theorem dL_law_27 : decode cL_law 27 = .ok (.iload_n 3, 1) := by decide +kernel
theorem dL_law_28 : decode cL_law 28 = .ok (.iaload, 1) := by decide +kernel
theorem dL_law_29 : decode cL_law 29 = .ok (.bipush 31, 2) := by decide +kernel
theorem dL_law_31 : decode cL_law 31 = .ok (.iand, 1) := by decide +kernel
theorem dL_law_32 : decode cL_law 32 = .ok (.tableswitch 792 0 27 #[128, 151, 164, 197, 240, 273, 306, 329, 342, 365, 388, 411, 444, 467, 490, 503, 526, 549, 582, 605, 628, 641, 664, 677, 700, 743, 756, 769], 128) := by decide +kernel
theorem dL_law_160 : decode cL_law 160 = .ok (.aload_n 1, 1) := by decide +kernel
theorem dL_law_161 : decode cL_law 161 = .ok (.aload_n 0, 1) := by decide +kernel
theorem dL_law_162 : decode cL_law 162 = .ok (.iload_n 3, 1) := by decide +kernel
theorem dL_law_163 : decode cL_law 163 = .ok (.iconst 1, 1) := by decide +kernel
theorem dL_law_164 : decode cL_law 164 = .ok (.iadd, 1) := by decide +kernel
theorem dL_law_165 : decode cL_law 165 = .ok (.iaload, 1) := by decide +kernel
theorem dL_law_166 : decode cL_law 166 = .ok (.invokevirtual 13, 3) := by decide +kernel
theorem dL_law_169 : decode cL_law 169 = .ok (.aload_n 2, 1) := by decide +kernel
theorem dL_law_170 : decode cL_law 170 = .ok (.aload_n 0, 1) := by decide +kernel
theorem dL_law_171 : decode cL_law 171 = .ok (.iload_n 3, 1) := by decide +kernel
theorem dL_law_172 : decode cL_law 172 = .ok (.iconst 1, 1) := by decide +kernel
theorem dL_law_173 : decode cL_law 173 = .ok (.iadd, 1) := by decide +kernel
theorem dL_law_174 : decode cL_law 174 = .ok (.iaload, 1) := by decide +kernel
theorem dL_law_175 : decode cL_law 175 = .ok (.invokevirtual 17, 3) := by decide +kernel
theorem dL_law_178 : decode cL_law 178 = .ok (.if_icmp .eq 646, 3) := by decide +kernel
theorem dL_law_181 : decode cL_law 181 = .ok (.iconst 0, 1) := by decide +kernel
theorem dL_law_182 : decode cL_law 182 = .ok (.ireturn, 1) := by decide +kernel
theorem dL_law_183 : decode cL_law 183 = .ok (.aload_n 1, 1) := by decide +kernel
theorem dL_law_184 : decode cL_law 184 = .ok (.invokevirtual 18, 3) := by decide +kernel
theorem dL_law_187 : decode cL_law 187 = .ok (.aload_n 2, 1) := by decide +kernel
theorem dL_law_188 : decode cL_law 188 = .ok (.invokevirtual 22, 3) := by decide +kernel
theorem dL_law_191 : decode cL_law 191 = .ok (.if_icmp .eq 633, 3) := by decide +kernel
theorem dL_law_194 : decode cL_law 194 = .ok (.iconst 0, 1) := by decide +kernel
theorem dL_law_195 : decode cL_law 195 = .ok (.ireturn, 1) := by decide +kernel
theorem dL_law_196 : decode cL_law 196 = .ok (.aload_n 1, 1) := by decide +kernel
theorem dL_law_197 : decode cL_law 197 = .ok (.aload_n 0, 1) := by decide +kernel
theorem dL_law_198 : decode cL_law 198 = .ok (.iload_n 3, 1) := by decide +kernel
theorem dL_law_199 : decode cL_law 199 = .ok (.iconst 1, 1) := by decide +kernel
theorem dL_law_200 : decode cL_law 200 = .ok (.iadd, 1) := by decide +kernel
theorem dL_law_201 : decode cL_law 201 = .ok (.iaload, 1) := by decide +kernel
theorem dL_law_202 : decode cL_law 202 = .ok (.aload_n 0, 1) := by decide +kernel
theorem dL_law_203 : decode cL_law 203 = .ok (.iload_n 3, 1) := by decide +kernel
theorem dL_law_204 : decode cL_law 204 = .ok (.iconst 2, 1) := by decide +kernel
theorem dL_law_205 : decode cL_law 205 = .ok (.iadd, 1) := by decide +kernel
theorem dL_law_206 : decode cL_law 206 = .ok (.iaload, 1) := by decide +kernel
theorem dL_law_207 : decode cL_law 207 = .ok (.invokevirtual 23, 3) := by decide +kernel
theorem dL_law_210 : decode cL_law 210 = .ok (.aload_n 2, 1) := by decide +kernel
theorem dL_law_211 : decode cL_law 211 = .ok (.aload_n 0, 1) := by decide +kernel
theorem dL_law_212 : decode cL_law 212 = .ok (.iload_n 3, 1) := by decide +kernel
theorem dL_law_213 : decode cL_law 213 = .ok (.iconst 1, 1) := by decide +kernel
theorem dL_law_214 : decode cL_law 214 = .ok (.iadd, 1) := by decide +kernel
theorem dL_law_215 : decode cL_law 215 = .ok (.iaload, 1) := by decide +kernel
theorem dL_law_216 : decode cL_law 216 = .ok (.aload_n 0, 1) := by decide +kernel
theorem dL_law_217 : decode cL_law 217 = .ok (.iload_n 3, 1) := by decide +kernel
theorem dL_law_218 : decode cL_law 218 = .ok (.iconst 2, 1) := by decide +kernel
theorem dL_law_219 : decode cL_law 219 = .ok (.iadd, 1) := by decide +kernel
theorem dL_law_220 : decode cL_law 220 = .ok (.iaload, 1) := by decide +kernel
theorem dL_law_221 : decode cL_law 221 = .ok (.invokevirtual 27, 3) := by decide +kernel
theorem dL_law_224 : decode cL_law 224 = .ok (.if_icmp .eq 600, 3) := by decide +kernel
theorem dL_law_227 : decode cL_law 227 = .ok (.iconst 0, 1) := by decide +kernel
theorem dL_law_228 : decode cL_law 228 = .ok (.ireturn, 1) := by decide +kernel
theorem dL_law_229 : decode cL_law 229 = .ok (.aload_n 1, 1) := by decide +kernel
theorem dL_law_230 : decode cL_law 230 = .ok (.aload_n 0, 1) := by decide +kernel
theorem dL_law_231 : decode cL_law 231 = .ok (.iload_n 3, 1) := by decide +kernel
theorem dL_law_232 : decode cL_law 232 = .ok (.iconst 1, 1) := by decide +kernel
theorem dL_law_233 : decode cL_law 233 = .ok (.iadd, 1) := by decide +kernel
theorem dL_law_234 : decode cL_law 234 = .ok (.iaload, 1) := by decide +kernel
theorem dL_law_235 : decode cL_law 235 = .ok (.aload_n 0, 1) := by decide +kernel
theorem dL_law_236 : decode cL_law 236 = .ok (.iload_n 3, 1) := by decide +kernel
theorem dL_law_237 : decode cL_law 237 = .ok (.iconst 2, 1) := by decide +kernel
theorem dL_law_238 : decode cL_law 238 = .ok (.iadd, 1) := by decide +kernel
theorem dL_law_239 : decode cL_law 239 = .ok (.iaload, 1) := by decide +kernel
theorem dL_law_240 : decode cL_law 240 = .ok (.aload_n 0, 1) := by decide +kernel
theorem dL_law_241 : decode cL_law 241 = .ok (.iload_n 3, 1) := by decide +kernel
theorem dL_law_242 : decode cL_law 242 = .ok (.iconst 3, 1) := by decide +kernel
theorem dL_law_243 : decode cL_law 243 = .ok (.iadd, 1) := by decide +kernel
theorem dL_law_244 : decode cL_law 244 = .ok (.iaload, 1) := by decide +kernel
theorem dL_law_245 : decode cL_law 245 = .ok (.invokevirtual 28, 3) := by decide +kernel
theorem dL_law_248 : decode cL_law 248 = .ok (.aload_n 2, 1) := by decide +kernel
theorem dL_law_249 : decode cL_law 249 = .ok (.aload_n 0, 1) := by decide +kernel
theorem dL_law_250 : decode cL_law 250 = .ok (.iload_n 3, 1) := by decide +kernel
theorem dL_law_251 : decode cL_law 251 = .ok (.iconst 1, 1) := by decide +kernel
theorem dL_law_252 : decode cL_law 252 = .ok (.iadd, 1) := by decide +kernel
theorem dL_law_253 : decode cL_law 253 = .ok (.iaload, 1) := by decide +kernel
theorem dL_law_254 : decode cL_law 254 = .ok (.aload_n 0, 1) := by decide +kernel
theorem dL_law_255 : decode cL_law 255 = .ok (.iload_n 3, 1) := by decide +kernel
theorem dL_law_256 : decode cL_law 256 = .ok (.iconst 2, 1) := by decide +kernel
theorem dL_law_257 : decode cL_law 257 = .ok (.iadd, 1) := by decide +kernel
theorem dL_law_258 : decode cL_law 258 = .ok (.iaload, 1) := by decide +kernel
theorem dL_law_259 : decode cL_law 259 = .ok (.aload_n 0, 1) := by decide +kernel
theorem dL_law_260 : decode cL_law 260 = .ok (.iload_n 3, 1) := by decide +kernel
theorem dL_law_261 : decode cL_law 261 = .ok (.iconst 3, 1) := by decide +kernel
theorem dL_law_262 : decode cL_law 262 = .ok (.iadd, 1) := by decide +kernel
theorem dL_law_263 : decode cL_law 263 = .ok (.iaload, 1) := by decide +kernel
theorem dL_law_264 : decode cL_law 264 = .ok (.invokevirtual 32, 3) := by decide +kernel
theorem dL_law_267 : decode cL_law 267 = .ok (.if_icmp .eq 557, 3) := by decide +kernel
theorem dL_law_270 : decode cL_law 270 = .ok (.iconst 0, 1) := by decide +kernel
theorem dL_law_271 : decode cL_law 271 = .ok (.ireturn, 1) := by decide +kernel
theorem dL_law_272 : decode cL_law 272 = .ok (.aload_n 1, 1) := by decide +kernel
theorem dL_law_273 : decode cL_law 273 = .ok (.aload_n 0, 1) := by decide +kernel
theorem dL_law_274 : decode cL_law 274 = .ok (.iload_n 3, 1) := by decide +kernel
theorem dL_law_275 : decode cL_law 275 = .ok (.iconst 1, 1) := by decide +kernel
theorem dL_law_276 : decode cL_law 276 = .ok (.iadd, 1) := by decide +kernel
theorem dL_law_277 : decode cL_law 277 = .ok (.iaload, 1) := by decide +kernel
theorem dL_law_278 : decode cL_law 278 = .ok (.aload_n 0, 1) := by decide +kernel
theorem dL_law_279 : decode cL_law 279 = .ok (.iload_n 3, 1) := by decide +kernel
theorem dL_law_280 : decode cL_law 280 = .ok (.iconst 2, 1) := by decide +kernel
theorem dL_law_281 : decode cL_law 281 = .ok (.iadd, 1) := by decide +kernel
theorem dL_law_282 : decode cL_law 282 = .ok (.iaload, 1) := by decide +kernel
theorem dL_law_283 : decode cL_law 283 = .ok (.invokevirtual 33, 3) := by decide +kernel
theorem dL_law_286 : decode cL_law 286 = .ok (.aload_n 2, 1) := by decide +kernel
theorem dL_law_287 : decode cL_law 287 = .ok (.aload_n 0, 1) := by decide +kernel
theorem dL_law_288 : decode cL_law 288 = .ok (.iload_n 3, 1) := by decide +kernel
theorem dL_law_289 : decode cL_law 289 = .ok (.iconst 1, 1) := by decide +kernel
theorem dL_law_290 : decode cL_law 290 = .ok (.iadd, 1) := by decide +kernel
theorem dL_law_291 : decode cL_law 291 = .ok (.iaload, 1) := by decide +kernel
theorem dL_law_292 : decode cL_law 292 = .ok (.aload_n 0, 1) := by decide +kernel
theorem dL_law_293 : decode cL_law 293 = .ok (.iload_n 3, 1) := by decide +kernel
theorem dL_law_294 : decode cL_law 294 = .ok (.iconst 2, 1) := by decide +kernel
theorem dL_law_295 : decode cL_law 295 = .ok (.iadd, 1) := by decide +kernel
theorem dL_law_296 : decode cL_law 296 = .ok (.iaload, 1) := by decide +kernel
theorem dL_law_297 : decode cL_law 297 = .ok (.invokevirtual 36, 3) := by decide +kernel
theorem dL_law_300 : decode cL_law 300 = .ok (.if_icmp .eq 524, 3) := by decide +kernel
theorem dL_law_303 : decode cL_law 303 = .ok (.iconst 0, 1) := by decide +kernel
theorem dL_law_304 : decode cL_law 304 = .ok (.ireturn, 1) := by decide +kernel
theorem dL_law_305 : decode cL_law 305 = .ok (.aload_n 1, 1) := by decide +kernel
theorem dL_law_306 : decode cL_law 306 = .ok (.aload_n 0, 1) := by decide +kernel
theorem dL_law_307 : decode cL_law 307 = .ok (.iload_n 3, 1) := by decide +kernel
theorem dL_law_308 : decode cL_law 308 = .ok (.iconst 1, 1) := by decide +kernel
theorem dL_law_309 : decode cL_law 309 = .ok (.iadd, 1) := by decide +kernel
theorem dL_law_310 : decode cL_law 310 = .ok (.iaload, 1) := by decide +kernel
theorem dL_law_311 : decode cL_law 311 = .ok (.aload_n 0, 1) := by decide +kernel
theorem dL_law_312 : decode cL_law 312 = .ok (.iload_n 3, 1) := by decide +kernel
theorem dL_law_313 : decode cL_law 313 = .ok (.iconst 2, 1) := by decide +kernel
theorem dL_law_314 : decode cL_law 314 = .ok (.iadd, 1) := by decide +kernel
theorem dL_law_315 : decode cL_law 315 = .ok (.iaload, 1) := by decide +kernel
theorem dL_law_316 : decode cL_law 316 = .ok (.invokevirtual 37, 3) := by decide +kernel
theorem dL_law_319 : decode cL_law 319 = .ok (.aload_n 2, 1) := by decide +kernel
theorem dL_law_320 : decode cL_law 320 = .ok (.aload_n 0, 1) := by decide +kernel
theorem dL_law_321 : decode cL_law 321 = .ok (.iload_n 3, 1) := by decide +kernel
theorem dL_law_322 : decode cL_law 322 = .ok (.iconst 1, 1) := by decide +kernel
theorem dL_law_323 : decode cL_law 323 = .ok (.iadd, 1) := by decide +kernel
theorem dL_law_324 : decode cL_law 324 = .ok (.iaload, 1) := by decide +kernel
theorem dL_law_325 : decode cL_law 325 = .ok (.aload_n 0, 1) := by decide +kernel
theorem dL_law_326 : decode cL_law 326 = .ok (.iload_n 3, 1) := by decide +kernel
theorem dL_law_327 : decode cL_law 327 = .ok (.iconst 2, 1) := by decide +kernel
theorem dL_law_328 : decode cL_law 328 = .ok (.iadd, 1) := by decide +kernel
theorem dL_law_329 : decode cL_law 329 = .ok (.iaload, 1) := by decide +kernel
theorem dL_law_330 : decode cL_law 330 = .ok (.invokevirtual 40, 3) := by decide +kernel
theorem dL_law_333 : decode cL_law 333 = .ok (.if_icmp .eq 491, 3) := by decide +kernel
theorem dL_law_336 : decode cL_law 336 = .ok (.iconst 0, 1) := by decide +kernel
theorem dL_law_337 : decode cL_law 337 = .ok (.ireturn, 1) := by decide +kernel
theorem dL_law_338 : decode cL_law 338 = .ok (.aload_n 1, 1) := by decide +kernel
theorem dL_law_339 : decode cL_law 339 = .ok (.aload_n 0, 1) := by decide +kernel
theorem dL_law_340 : decode cL_law 340 = .ok (.iload_n 3, 1) := by decide +kernel
theorem dL_law_341 : decode cL_law 341 = .ok (.iconst 1, 1) := by decide +kernel
theorem dL_law_342 : decode cL_law 342 = .ok (.iadd, 1) := by decide +kernel
theorem dL_law_343 : decode cL_law 343 = .ok (.iaload, 1) := by decide +kernel
theorem dL_law_344 : decode cL_law 344 = .ok (.invokevirtual 41, 3) := by decide +kernel
theorem dL_law_347 : decode cL_law 347 = .ok (.aload_n 2, 1) := by decide +kernel
theorem dL_law_348 : decode cL_law 348 = .ok (.aload_n 0, 1) := by decide +kernel
theorem dL_law_349 : decode cL_law 349 = .ok (.iload_n 3, 1) := by decide +kernel
theorem dL_law_350 : decode cL_law 350 = .ok (.iconst 1, 1) := by decide +kernel
theorem dL_law_351 : decode cL_law 351 = .ok (.iadd, 1) := by decide +kernel
theorem dL_law_352 : decode cL_law 352 = .ok (.iaload, 1) := by decide +kernel
theorem dL_law_353 : decode cL_law 353 = .ok (.invokevirtual 44, 3) := by decide +kernel
theorem dL_law_356 : decode cL_law 356 = .ok (.if_icmp .eq 468, 3) := by decide +kernel
theorem dL_law_359 : decode cL_law 359 = .ok (.iconst 0, 1) := by decide +kernel
theorem dL_law_360 : decode cL_law 360 = .ok (.ireturn, 1) := by decide +kernel
theorem dL_law_361 : decode cL_law 361 = .ok (.aload_n 1, 1) := by decide +kernel
theorem dL_law_362 : decode cL_law 362 = .ok (.invokevirtual 45, 3) := by decide +kernel
theorem dL_law_365 : decode cL_law 365 = .ok (.aload_n 2, 1) := by decide +kernel
theorem dL_law_366 : decode cL_law 366 = .ok (.invokevirtual 48, 3) := by decide +kernel
theorem dL_law_369 : decode cL_law 369 = .ok (.if_icmp .eq 455, 3) := by decide +kernel
theorem dL_law_372 : decode cL_law 372 = .ok (.iconst 0, 1) := by decide +kernel
theorem dL_law_373 : decode cL_law 373 = .ok (.ireturn, 1) := by decide +kernel
theorem dL_law_374 : decode cL_law 374 = .ok (.aload_n 1, 1) := by decide +kernel
theorem dL_law_375 : decode cL_law 375 = .ok (.aload_n 0, 1) := by decide +kernel
theorem dL_law_376 : decode cL_law 376 = .ok (.iload_n 3, 1) := by decide +kernel
theorem dL_law_377 : decode cL_law 377 = .ok (.iconst 1, 1) := by decide +kernel
theorem dL_law_378 : decode cL_law 378 = .ok (.iadd, 1) := by decide +kernel
theorem dL_law_379 : decode cL_law 379 = .ok (.iaload, 1) := by decide +kernel
theorem dL_law_380 : decode cL_law 380 = .ok (.invokevirtual 49, 3) := by decide +kernel
theorem dL_law_383 : decode cL_law 383 = .ok (.aload_n 2, 1) := by decide +kernel
theorem dL_law_384 : decode cL_law 384 = .ok (.aload_n 0, 1) := by decide +kernel
theorem dL_law_385 : decode cL_law 385 = .ok (.iload_n 3, 1) := by decide +kernel
theorem dL_law_386 : decode cL_law 386 = .ok (.iconst 1, 1) := by decide +kernel
theorem dL_law_387 : decode cL_law 387 = .ok (.iadd, 1) := by decide +kernel
theorem dL_law_388 : decode cL_law 388 = .ok (.iaload, 1) := by decide +kernel
theorem dL_law_389 : decode cL_law 389 = .ok (.invokevirtual 52, 3) := by decide +kernel
theorem dL_law_392 : decode cL_law 392 = .ok (.if_icmp .eq 432, 3) := by decide +kernel
theorem dL_law_395 : decode cL_law 395 = .ok (.iconst 0, 1) := by decide +kernel
theorem dL_law_396 : decode cL_law 396 = .ok (.ireturn, 1) := by decide +kernel
theorem dL_law_397 : decode cL_law 397 = .ok (.aload_n 1, 1) := by decide +kernel
theorem dL_law_398 : decode cL_law 398 = .ok (.aload_n 0, 1) := by decide +kernel
theorem dL_law_399 : decode cL_law 399 = .ok (.iload_n 3, 1) := by decide +kernel
theorem dL_law_400 : decode cL_law 400 = .ok (.iconst 1, 1) := by decide +kernel
theorem dL_law_401 : decode cL_law 401 = .ok (.iadd, 1) := by decide +kernel
theorem dL_law_402 : decode cL_law 402 = .ok (.iaload, 1) := by decide +kernel
theorem dL_law_403 : decode cL_law 403 = .ok (.invokevirtual 53, 3) := by decide +kernel
theorem dL_law_406 : decode cL_law 406 = .ok (.aload_n 2, 1) := by decide +kernel
theorem dL_law_407 : decode cL_law 407 = .ok (.aload_n 0, 1) := by decide +kernel
theorem dL_law_408 : decode cL_law 408 = .ok (.iload_n 3, 1) := by decide +kernel
theorem dL_law_409 : decode cL_law 409 = .ok (.iconst 1, 1) := by decide +kernel
theorem dL_law_410 : decode cL_law 410 = .ok (.iadd, 1) := by decide +kernel
theorem dL_law_411 : decode cL_law 411 = .ok (.iaload, 1) := by decide +kernel
theorem dL_law_412 : decode cL_law 412 = .ok (.invokevirtual 56, 3) := by decide +kernel
theorem dL_law_415 : decode cL_law 415 = .ok (.if_icmp .eq 409, 3) := by decide +kernel
theorem dL_law_418 : decode cL_law 418 = .ok (.iconst 0, 1) := by decide +kernel
theorem dL_law_419 : decode cL_law 419 = .ok (.ireturn, 1) := by decide +kernel
theorem dL_law_420 : decode cL_law 420 = .ok (.aload_n 1, 1) := by decide +kernel
theorem dL_law_421 : decode cL_law 421 = .ok (.aload_n 0, 1) := by decide +kernel
theorem dL_law_422 : decode cL_law 422 = .ok (.iload_n 3, 1) := by decide +kernel
theorem dL_law_423 : decode cL_law 423 = .ok (.iconst 1, 1) := by decide +kernel
theorem dL_law_424 : decode cL_law 424 = .ok (.iadd, 1) := by decide +kernel
theorem dL_law_425 : decode cL_law 425 = .ok (.iaload, 1) := by decide +kernel
theorem dL_law_426 : decode cL_law 426 = .ok (.invokevirtual 57, 3) := by decide +kernel
theorem dL_law_429 : decode cL_law 429 = .ok (.aload_n 2, 1) := by decide +kernel
theorem dL_law_430 : decode cL_law 430 = .ok (.aload_n 0, 1) := by decide +kernel
theorem dL_law_431 : decode cL_law 431 = .ok (.iload_n 3, 1) := by decide +kernel
theorem dL_law_432 : decode cL_law 432 = .ok (.iconst 1, 1) := by decide +kernel
theorem dL_law_433 : decode cL_law 433 = .ok (.iadd, 1) := by decide +kernel
theorem dL_law_434 : decode cL_law 434 = .ok (.iaload, 1) := by decide +kernel
theorem dL_law_435 : decode cL_law 435 = .ok (.invokevirtual 60, 3) := by decide +kernel
theorem dL_law_438 : decode cL_law 438 = .ok (.if_icmp .eq 386, 3) := by decide +kernel
theorem dL_law_441 : decode cL_law 441 = .ok (.iconst 0, 1) := by decide +kernel
theorem dL_law_442 : decode cL_law 442 = .ok (.ireturn, 1) := by decide +kernel
theorem dL_law_443 : decode cL_law 443 = .ok (.aload_n 1, 1) := by decide +kernel
theorem dL_law_444 : decode cL_law 444 = .ok (.aload_n 0, 1) := by decide +kernel
theorem dL_law_445 : decode cL_law 445 = .ok (.iload_n 3, 1) := by decide +kernel
theorem dL_law_446 : decode cL_law 446 = .ok (.iconst 1, 1) := by decide +kernel
theorem dL_law_447 : decode cL_law 447 = .ok (.iadd, 1) := by decide +kernel
theorem dL_law_448 : decode cL_law 448 = .ok (.iaload, 1) := by decide +kernel
theorem dL_law_449 : decode cL_law 449 = .ok (.aload_n 0, 1) := by decide +kernel
theorem dL_law_450 : decode cL_law 450 = .ok (.iload_n 3, 1) := by decide +kernel
theorem dL_law_451 : decode cL_law 451 = .ok (.iconst 2, 1) := by decide +kernel
theorem dL_law_452 : decode cL_law 452 = .ok (.iadd, 1) := by decide +kernel
theorem dL_law_453 : decode cL_law 453 = .ok (.iaload, 1) := by decide +kernel
theorem dL_law_454 : decode cL_law 454 = .ok (.invokevirtual 61, 3) := by decide +kernel
theorem dL_law_457 : decode cL_law 457 = .ok (.aload_n 2, 1) := by decide +kernel
theorem dL_law_458 : decode cL_law 458 = .ok (.aload_n 0, 1) := by decide +kernel
theorem dL_law_459 : decode cL_law 459 = .ok (.iload_n 3, 1) := by decide +kernel
theorem dL_law_460 : decode cL_law 460 = .ok (.iconst 1, 1) := by decide +kernel
theorem dL_law_461 : decode cL_law 461 = .ok (.iadd, 1) := by decide +kernel
theorem dL_law_462 : decode cL_law 462 = .ok (.iaload, 1) := by decide +kernel
theorem dL_law_463 : decode cL_law 463 = .ok (.aload_n 0, 1) := by decide +kernel
theorem dL_law_464 : decode cL_law 464 = .ok (.iload_n 3, 1) := by decide +kernel
theorem dL_law_465 : decode cL_law 465 = .ok (.iconst 2, 1) := by decide +kernel
theorem dL_law_466 : decode cL_law 466 = .ok (.iadd, 1) := by decide +kernel
theorem dL_law_467 : decode cL_law 467 = .ok (.iaload, 1) := by decide +kernel
theorem dL_law_468 : decode cL_law 468 = .ok (.invokevirtual 64, 3) := by decide +kernel
theorem dL_law_471 : decode cL_law 471 = .ok (.if_icmp .eq 353, 3) := by decide +kernel
theorem dL_law_474 : decode cL_law 474 = .ok (.iconst 0, 1) := by decide +kernel
theorem dL_law_475 : decode cL_law 475 = .ok (.ireturn, 1) := by decide +kernel
theorem dL_law_476 : decode cL_law 476 = .ok (.aload_n 1, 1) := by decide +kernel
theorem dL_law_477 : decode cL_law 477 = .ok (.aload_n 0, 1) := by decide +kernel
theorem dL_law_478 : decode cL_law 478 = .ok (.iload_n 3, 1) := by decide +kernel
theorem dL_law_479 : decode cL_law 479 = .ok (.iconst 1, 1) := by decide +kernel
theorem dL_law_480 : decode cL_law 480 = .ok (.iadd, 1) := by decide +kernel
theorem dL_law_481 : decode cL_law 481 = .ok (.iaload, 1) := by decide +kernel
theorem dL_law_482 : decode cL_law 482 = .ok (.invokevirtual 65, 3) := by decide +kernel
theorem dL_law_485 : decode cL_law 485 = .ok (.aload_n 2, 1) := by decide +kernel
theorem dL_law_486 : decode cL_law 486 = .ok (.aload_n 0, 1) := by decide +kernel
theorem dL_law_487 : decode cL_law 487 = .ok (.iload_n 3, 1) := by decide +kernel
theorem dL_law_488 : decode cL_law 488 = .ok (.iconst 1, 1) := by decide +kernel
theorem dL_law_489 : decode cL_law 489 = .ok (.iadd, 1) := by decide +kernel
theorem dL_law_490 : decode cL_law 490 = .ok (.iaload, 1) := by decide +kernel
theorem dL_law_491 : decode cL_law 491 = .ok (.invokevirtual 68, 3) := by decide +kernel
theorem dL_law_494 : decode cL_law 494 = .ok (.if_icmp .eq 330, 3) := by decide +kernel
theorem dL_law_497 : decode cL_law 497 = .ok (.iconst 0, 1) := by decide +kernel
theorem dL_law_498 : decode cL_law 498 = .ok (.ireturn, 1) := by decide +kernel
theorem dL_law_499 : decode cL_law 499 = .ok (.aload_n 1, 1) := by decide +kernel
theorem dL_law_500 : decode cL_law 500 = .ok (.aload_n 0, 1) := by decide +kernel
theorem dL_law_501 : decode cL_law 501 = .ok (.iload_n 3, 1) := by decide +kernel
theorem dL_law_502 : decode cL_law 502 = .ok (.iconst 1, 1) := by decide +kernel
theorem dL_law_503 : decode cL_law 503 = .ok (.iadd, 1) := by decide +kernel
theorem dL_law_504 : decode cL_law 504 = .ok (.iaload, 1) := by decide +kernel
theorem dL_law_505 : decode cL_law 505 = .ok (.invokevirtual 69, 3) := by decide +kernel
theorem dL_law_508 : decode cL_law 508 = .ok (.aload_n 2, 1) := by decide +kernel
theorem dL_law_509 : decode cL_law 509 = .ok (.aload_n 0, 1) := by decide +kernel
theorem dL_law_510 : decode cL_law 510 = .ok (.iload_n 3, 1) := by decide +kernel
theorem dL_law_511 : decode cL_law 511 = .ok (.iconst 1, 1) := by decide +kernel
theorem dL_law_512 : decode cL_law 512 = .ok (.iadd, 1) := by decide +kernel
theorem dL_law_513 : decode cL_law 513 = .ok (.iaload, 1) := by decide +kernel
theorem dL_law_514 : decode cL_law 514 = .ok (.invokevirtual 72, 3) := by decide +kernel
theorem dL_law_517 : decode cL_law 517 = .ok (.if_icmp .eq 307, 3) := by decide +kernel
theorem dL_law_520 : decode cL_law 520 = .ok (.iconst 0, 1) := by decide +kernel
theorem dL_law_521 : decode cL_law 521 = .ok (.ireturn, 1) := by decide +kernel
theorem dL_law_522 : decode cL_law 522 = .ok (.aload_n 1, 1) := by decide +kernel
theorem dL_law_523 : decode cL_law 523 = .ok (.invokevirtual 73, 3) := by decide +kernel
theorem dL_law_526 : decode cL_law 526 = .ok (.aload_n 2, 1) := by decide +kernel
theorem dL_law_527 : decode cL_law 527 = .ok (.invokevirtual 76, 3) := by decide +kernel
theorem dL_law_530 : decode cL_law 530 = .ok (.if_icmp .eq 294, 3) := by decide +kernel
theorem dL_law_533 : decode cL_law 533 = .ok (.iconst 0, 1) := by decide +kernel
theorem dL_law_534 : decode cL_law 534 = .ok (.ireturn, 1) := by decide +kernel
theorem dL_law_535 : decode cL_law 535 = .ok (.aload_n 1, 1) := by decide +kernel
theorem dL_law_536 : decode cL_law 536 = .ok (.aload_n 0, 1) := by decide +kernel
theorem dL_law_537 : decode cL_law 537 = .ok (.iload_n 3, 1) := by decide +kernel
theorem dL_law_538 : decode cL_law 538 = .ok (.iconst 1, 1) := by decide +kernel
theorem dL_law_539 : decode cL_law 539 = .ok (.iadd, 1) := by decide +kernel
theorem dL_law_540 : decode cL_law 540 = .ok (.iaload, 1) := by decide +kernel
theorem dL_law_541 : decode cL_law 541 = .ok (.invokevirtual 77, 3) := by decide +kernel
theorem dL_law_544 : decode cL_law 544 = .ok (.aload_n 2, 1) := by decide +kernel
theorem dL_law_545 : decode cL_law 545 = .ok (.aload_n 0, 1) := by decide +kernel
theorem dL_law_546 : decode cL_law 546 = .ok (.iload_n 3, 1) := by decide +kernel
theorem dL_law_547 : decode cL_law 547 = .ok (.iconst 1, 1) := by decide +kernel
theorem dL_law_548 : decode cL_law 548 = .ok (.iadd, 1) := by decide +kernel
theorem dL_law_549 : decode cL_law 549 = .ok (.iaload, 1) := by decide +kernel
theorem dL_law_550 : decode cL_law 550 = .ok (.invokevirtual 80, 3) := by decide +kernel
theorem dL_law_553 : decode cL_law 553 = .ok (.if_icmp .eq 271, 3) := by decide +kernel
theorem dL_law_556 : decode cL_law 556 = .ok (.iconst 0, 1) := by decide +kernel
theorem dL_law_557 : decode cL_law 557 = .ok (.ireturn, 1) := by decide +kernel
theorem dL_law_558 : decode cL_law 558 = .ok (.aload_n 1, 1) := by decide +kernel
theorem dL_law_559 : decode cL_law 559 = .ok (.aload_n 0, 1) := by decide +kernel
theorem dL_law_560 : decode cL_law 560 = .ok (.iload_n 3, 1) := by decide +kernel
theorem dL_law_561 : decode cL_law 561 = .ok (.iconst 1, 1) := by decide +kernel
theorem dL_law_562 : decode cL_law 562 = .ok (.iadd, 1) := by decide +kernel
theorem dL_law_563 : decode cL_law 563 = .ok (.iaload, 1) := by decide +kernel
theorem dL_law_564 : decode cL_law 564 = .ok (.invokevirtual 81, 3) := by decide +kernel
theorem dL_law_567 : decode cL_law 567 = .ok (.aload_n 2, 1) := by decide +kernel
theorem dL_law_568 : decode cL_law 568 = .ok (.aload_n 0, 1) := by decide +kernel
theorem dL_law_569 : decode cL_law 569 = .ok (.iload_n 3, 1) := by decide +kernel
theorem dL_law_570 : decode cL_law 570 = .ok (.iconst 1, 1) := by decide +kernel
theorem dL_law_571 : decode cL_law 571 = .ok (.iadd, 1) := by decide +kernel
theorem dL_law_572 : decode cL_law 572 = .ok (.iaload, 1) := by decide +kernel
theorem dL_law_573 : decode cL_law 573 = .ok (.invokevirtual 84, 3) := by decide +kernel
theorem dL_law_576 : decode cL_law 576 = .ok (.if_icmp .eq 248, 3) := by decide +kernel
theorem dL_law_579 : decode cL_law 579 = .ok (.iconst 0, 1) := by decide +kernel
theorem dL_law_580 : decode cL_law 580 = .ok (.ireturn, 1) := by decide +kernel
theorem dL_law_581 : decode cL_law 581 = .ok (.aload_n 1, 1) := by decide +kernel
theorem dL_law_582 : decode cL_law 582 = .ok (.aload_n 0, 1) := by decide +kernel
theorem dL_law_583 : decode cL_law 583 = .ok (.iload_n 3, 1) := by decide +kernel
theorem dL_law_584 : decode cL_law 584 = .ok (.iconst 1, 1) := by decide +kernel
theorem dL_law_585 : decode cL_law 585 = .ok (.iadd, 1) := by decide +kernel
theorem dL_law_586 : decode cL_law 586 = .ok (.iaload, 1) := by decide +kernel
theorem dL_law_587 : decode cL_law 587 = .ok (.aload_n 0, 1) := by decide +kernel
theorem dL_law_588 : decode cL_law 588 = .ok (.iload_n 3, 1) := by decide +kernel
theorem dL_law_589 : decode cL_law 589 = .ok (.iconst 2, 1) := by decide +kernel
theorem dL_law_590 : decode cL_law 590 = .ok (.iadd, 1) := by decide +kernel
theorem dL_law_591 : decode cL_law 591 = .ok (.iaload, 1) := by decide +kernel
theorem dL_law_592 : decode cL_law 592 = .ok (.invokevirtual 85, 3) := by decide +kernel
theorem dL_law_595 : decode cL_law 595 = .ok (.aload_n 2, 1) := by decide +kernel
theorem dL_law_596 : decode cL_law 596 = .ok (.aload_n 0, 1) := by decide +kernel
theorem dL_law_597 : decode cL_law 597 = .ok (.iload_n 3, 1) := by decide +kernel
theorem dL_law_598 : decode cL_law 598 = .ok (.iconst 1, 1) := by decide +kernel
theorem dL_law_599 : decode cL_law 599 = .ok (.iadd, 1) := by decide +kernel
theorem dL_law_600 : decode cL_law 600 = .ok (.iaload, 1) := by decide +kernel
theorem dL_law_601 : decode cL_law 601 = .ok (.aload_n 0, 1) := by decide +kernel
theorem dL_law_602 : decode cL_law 602 = .ok (.iload_n 3, 1) := by decide +kernel
theorem dL_law_603 : decode cL_law 603 = .ok (.iconst 2, 1) := by decide +kernel
theorem dL_law_604 : decode cL_law 604 = .ok (.iadd, 1) := by decide +kernel
theorem dL_law_605 : decode cL_law 605 = .ok (.iaload, 1) := by decide +kernel
theorem dL_law_606 : decode cL_law 606 = .ok (.invokevirtual 88, 3) := by decide +kernel
theorem dL_law_609 : decode cL_law 609 = .ok (.if_icmp .eq 215, 3) := by decide +kernel
theorem dL_law_612 : decode cL_law 612 = .ok (.iconst 0, 1) := by decide +kernel
theorem dL_law_613 : decode cL_law 613 = .ok (.ireturn, 1) := by decide +kernel
theorem dL_law_614 : decode cL_law 614 = .ok (.aload_n 1, 1) := by decide +kernel
theorem dL_law_615 : decode cL_law 615 = .ok (.aload_n 0, 1) := by decide +kernel
theorem dL_law_616 : decode cL_law 616 = .ok (.iload_n 3, 1) := by decide +kernel
theorem dL_law_617 : decode cL_law 617 = .ok (.iconst 1, 1) := by decide +kernel
theorem dL_law_618 : decode cL_law 618 = .ok (.iadd, 1) := by decide +kernel
theorem dL_law_619 : decode cL_law 619 = .ok (.iaload, 1) := by decide +kernel
theorem dL_law_620 : decode cL_law 620 = .ok (.invokevirtual 89, 3) := by decide +kernel
theorem dL_law_623 : decode cL_law 623 = .ok (.aload_n 2, 1) := by decide +kernel
theorem dL_law_624 : decode cL_law 624 = .ok (.aload_n 0, 1) := by decide +kernel
theorem dL_law_625 : decode cL_law 625 = .ok (.iload_n 3, 1) := by decide +kernel
theorem dL_law_626 : decode cL_law 626 = .ok (.iconst 1, 1) := by decide +kernel
theorem dL_law_627 : decode cL_law 627 = .ok (.iadd, 1) := by decide +kernel
theorem dL_law_628 : decode cL_law 628 = .ok (.iaload, 1) := by decide +kernel
theorem dL_law_629 : decode cL_law 629 = .ok (.invokevirtual 92, 3) := by decide +kernel
theorem dL_law_632 : decode cL_law 632 = .ok (.if_icmp .eq 192, 3) := by decide +kernel
theorem dL_law_635 : decode cL_law 635 = .ok (.iconst 0, 1) := by decide +kernel
theorem dL_law_636 : decode cL_law 636 = .ok (.ireturn, 1) := by decide +kernel
theorem dL_law_637 : decode cL_law 637 = .ok (.aload_n 1, 1) := by decide +kernel
theorem dL_law_638 : decode cL_law 638 = .ok (.aload_n 0, 1) := by decide +kernel
theorem dL_law_639 : decode cL_law 639 = .ok (.iload_n 3, 1) := by decide +kernel
theorem dL_law_640 : decode cL_law 640 = .ok (.iconst 1, 1) := by decide +kernel
theorem dL_law_641 : decode cL_law 641 = .ok (.iadd, 1) := by decide +kernel
theorem dL_law_642 : decode cL_law 642 = .ok (.iaload, 1) := by decide +kernel
theorem dL_law_643 : decode cL_law 643 = .ok (.invokevirtual 93, 3) := by decide +kernel
theorem dL_law_646 : decode cL_law 646 = .ok (.aload_n 2, 1) := by decide +kernel
theorem dL_law_647 : decode cL_law 647 = .ok (.aload_n 0, 1) := by decide +kernel
theorem dL_law_648 : decode cL_law 648 = .ok (.iload_n 3, 1) := by decide +kernel
theorem dL_law_649 : decode cL_law 649 = .ok (.iconst 1, 1) := by decide +kernel
theorem dL_law_650 : decode cL_law 650 = .ok (.iadd, 1) := by decide +kernel
theorem dL_law_651 : decode cL_law 651 = .ok (.iaload, 1) := by decide +kernel
theorem dL_law_652 : decode cL_law 652 = .ok (.invokevirtual 96, 3) := by decide +kernel
theorem dL_law_655 : decode cL_law 655 = .ok (.if_icmp .eq 169, 3) := by decide +kernel
theorem dL_law_658 : decode cL_law 658 = .ok (.iconst 0, 1) := by decide +kernel
theorem dL_law_659 : decode cL_law 659 = .ok (.ireturn, 1) := by decide +kernel
theorem dL_law_660 : decode cL_law 660 = .ok (.aload_n 1, 1) := by decide +kernel
theorem dL_law_661 : decode cL_law 661 = .ok (.invokevirtual 97, 3) := by decide +kernel
theorem dL_law_664 : decode cL_law 664 = .ok (.aload_n 2, 1) := by decide +kernel
theorem dL_law_665 : decode cL_law 665 = .ok (.invokevirtual 100, 3) := by decide +kernel
theorem dL_law_668 : decode cL_law 668 = .ok (.if_icmp .eq 156, 3) := by decide +kernel
theorem dL_law_671 : decode cL_law 671 = .ok (.iconst 0, 1) := by decide +kernel
theorem dL_law_672 : decode cL_law 672 = .ok (.ireturn, 1) := by decide +kernel
theorem dL_law_673 : decode cL_law 673 = .ok (.aload_n 1, 1) := by decide +kernel
theorem dL_law_674 : decode cL_law 674 = .ok (.aload_n 0, 1) := by decide +kernel
theorem dL_law_675 : decode cL_law 675 = .ok (.iload_n 3, 1) := by decide +kernel
theorem dL_law_676 : decode cL_law 676 = .ok (.iconst 1, 1) := by decide +kernel
theorem dL_law_677 : decode cL_law 677 = .ok (.iadd, 1) := by decide +kernel
theorem dL_law_678 : decode cL_law 678 = .ok (.iaload, 1) := by decide +kernel
theorem dL_law_679 : decode cL_law 679 = .ok (.invokevirtual 101, 3) := by decide +kernel
theorem dL_law_682 : decode cL_law 682 = .ok (.aload_n 2, 1) := by decide +kernel
theorem dL_law_683 : decode cL_law 683 = .ok (.aload_n 0, 1) := by decide +kernel
theorem dL_law_684 : decode cL_law 684 = .ok (.iload_n 3, 1) := by decide +kernel
theorem dL_law_685 : decode cL_law 685 = .ok (.iconst 1, 1) := by decide +kernel
theorem dL_law_686 : decode cL_law 686 = .ok (.iadd, 1) := by decide +kernel
theorem dL_law_687 : decode cL_law 687 = .ok (.iaload, 1) := by decide +kernel
theorem dL_law_688 : decode cL_law 688 = .ok (.invokevirtual 104, 3) := by decide +kernel
theorem dL_law_691 : decode cL_law 691 = .ok (.if_icmp .eq 133, 3) := by decide +kernel
theorem dL_law_694 : decode cL_law 694 = .ok (.iconst 0, 1) := by decide +kernel
theorem dL_law_695 : decode cL_law 695 = .ok (.ireturn, 1) := by decide +kernel
theorem dL_law_696 : decode cL_law 696 = .ok (.aload_n 1, 1) := by decide +kernel
theorem dL_law_697 : decode cL_law 697 = .ok (.invokevirtual 105, 3) := by decide +kernel
theorem dL_law_700 : decode cL_law 700 = .ok (.aload_n 2, 1) := by decide +kernel
theorem dL_law_701 : decode cL_law 701 = .ok (.invokevirtual 108, 3) := by decide +kernel
theorem dL_law_704 : decode cL_law 704 = .ok (.if_icmp .eq 120, 3) := by decide +kernel
theorem dL_law_707 : decode cL_law 707 = .ok (.iconst 0, 1) := by decide +kernel
theorem dL_law_708 : decode cL_law 708 = .ok (.ireturn, 1) := by decide +kernel
theorem dL_law_709 : decode cL_law 709 = .ok (.aload_n 1, 1) := by decide +kernel
theorem dL_law_710 : decode cL_law 710 = .ok (.aload_n 0, 1) := by decide +kernel
theorem dL_law_711 : decode cL_law 711 = .ok (.iload_n 3, 1) := by decide +kernel
theorem dL_law_712 : decode cL_law 712 = .ok (.iconst 1, 1) := by decide +kernel
theorem dL_law_713 : decode cL_law 713 = .ok (.iadd, 1) := by decide +kernel
theorem dL_law_714 : decode cL_law 714 = .ok (.iaload, 1) := by decide +kernel
theorem dL_law_715 : decode cL_law 715 = .ok (.invokevirtual 109, 3) := by decide +kernel
theorem dL_law_718 : decode cL_law 718 = .ok (.aload_n 2, 1) := by decide +kernel
theorem dL_law_719 : decode cL_law 719 = .ok (.aload_n 0, 1) := by decide +kernel
theorem dL_law_720 : decode cL_law 720 = .ok (.iload_n 3, 1) := by decide +kernel
theorem dL_law_721 : decode cL_law 721 = .ok (.iconst 1, 1) := by decide +kernel
theorem dL_law_722 : decode cL_law 722 = .ok (.iadd, 1) := by decide +kernel
theorem dL_law_723 : decode cL_law 723 = .ok (.iaload, 1) := by decide +kernel
theorem dL_law_724 : decode cL_law 724 = .ok (.invokevirtual 112, 3) := by decide +kernel
theorem dL_law_727 : decode cL_law 727 = .ok (.if_icmp .eq 97, 3) := by decide +kernel
theorem dL_law_730 : decode cL_law 730 = .ok (.iconst 0, 1) := by decide +kernel
theorem dL_law_731 : decode cL_law 731 = .ok (.ireturn, 1) := by decide +kernel
theorem dL_law_732 : decode cL_law 732 = .ok (.aload_n 1, 1) := by decide +kernel
theorem dL_law_733 : decode cL_law 733 = .ok (.aload_n 0, 1) := by decide +kernel
theorem dL_law_734 : decode cL_law 734 = .ok (.iload_n 3, 1) := by decide +kernel
theorem dL_law_735 : decode cL_law 735 = .ok (.iconst 1, 1) := by decide +kernel
theorem dL_law_736 : decode cL_law 736 = .ok (.iadd, 1) := by decide +kernel
theorem dL_law_737 : decode cL_law 737 = .ok (.iaload, 1) := by decide +kernel
theorem dL_law_738 : decode cL_law 738 = .ok (.aload_n 0, 1) := by decide +kernel
theorem dL_law_739 : decode cL_law 739 = .ok (.iload_n 3, 1) := by decide +kernel
theorem dL_law_740 : decode cL_law 740 = .ok (.iconst 2, 1) := by decide +kernel
theorem dL_law_741 : decode cL_law 741 = .ok (.iadd, 1) := by decide +kernel
theorem dL_law_742 : decode cL_law 742 = .ok (.iaload, 1) := by decide +kernel
theorem dL_law_743 : decode cL_law 743 = .ok (.aload_n 0, 1) := by decide +kernel
theorem dL_law_744 : decode cL_law 744 = .ok (.iload_n 3, 1) := by decide +kernel
theorem dL_law_745 : decode cL_law 745 = .ok (.iconst 3, 1) := by decide +kernel
theorem dL_law_746 : decode cL_law 746 = .ok (.iadd, 1) := by decide +kernel
theorem dL_law_747 : decode cL_law 747 = .ok (.iaload, 1) := by decide +kernel
theorem dL_law_748 : decode cL_law 748 = .ok (.invokevirtual 113, 3) := by decide +kernel
theorem dL_law_751 : decode cL_law 751 = .ok (.aload_n 2, 1) := by decide +kernel
theorem dL_law_752 : decode cL_law 752 = .ok (.aload_n 0, 1) := by decide +kernel
theorem dL_law_753 : decode cL_law 753 = .ok (.iload_n 3, 1) := by decide +kernel
theorem dL_law_754 : decode cL_law 754 = .ok (.iconst 1, 1) := by decide +kernel
theorem dL_law_755 : decode cL_law 755 = .ok (.iadd, 1) := by decide +kernel
theorem dL_law_756 : decode cL_law 756 = .ok (.iaload, 1) := by decide +kernel
theorem dL_law_757 : decode cL_law 757 = .ok (.aload_n 0, 1) := by decide +kernel
theorem dL_law_758 : decode cL_law 758 = .ok (.iload_n 3, 1) := by decide +kernel
theorem dL_law_759 : decode cL_law 759 = .ok (.iconst 2, 1) := by decide +kernel
theorem dL_law_760 : decode cL_law 760 = .ok (.iadd, 1) := by decide +kernel
theorem dL_law_761 : decode cL_law 761 = .ok (.iaload, 1) := by decide +kernel
theorem dL_law_762 : decode cL_law 762 = .ok (.aload_n 0, 1) := by decide +kernel
theorem dL_law_763 : decode cL_law 763 = .ok (.iload_n 3, 1) := by decide +kernel
theorem dL_law_764 : decode cL_law 764 = .ok (.iconst 3, 1) := by decide +kernel
theorem dL_law_765 : decode cL_law 765 = .ok (.iadd, 1) := by decide +kernel
theorem dL_law_766 : decode cL_law 766 = .ok (.iaload, 1) := by decide +kernel
theorem dL_law_767 : decode cL_law 767 = .ok (.invokevirtual 116, 3) := by decide +kernel
theorem dL_law_770 : decode cL_law 770 = .ok (.if_icmp .eq 54, 3) := by decide +kernel
theorem dL_law_773 : decode cL_law 773 = .ok (.iconst 0, 1) := by decide +kernel
theorem dL_law_774 : decode cL_law 774 = .ok (.ireturn, 1) := by decide +kernel
theorem dL_law_775 : decode cL_law 775 = .ok (.aload_n 1, 1) := by decide +kernel
theorem dL_law_776 : decode cL_law 776 = .ok (.invokevirtual 117, 3) := by decide +kernel
theorem dL_law_779 : decode cL_law 779 = .ok (.aload_n 2, 1) := by decide +kernel
theorem dL_law_780 : decode cL_law 780 = .ok (.invokevirtual 120, 3) := by decide +kernel
theorem dL_law_783 : decode cL_law 783 = .ok (.if_icmp .eq 41, 3) := by decide +kernel
theorem dL_law_786 : decode cL_law 786 = .ok (.iconst 0, 1) := by decide +kernel
theorem dL_law_787 : decode cL_law 787 = .ok (.ireturn, 1) := by decide +kernel
theorem dL_law_788 : decode cL_law 788 = .ok (.aload_n 1, 1) := by decide +kernel
theorem dL_law_789 : decode cL_law 789 = .ok (.invokevirtual 121, 3) := by decide +kernel
theorem dL_law_792 : decode cL_law 792 = .ok (.aload_n 2, 1) := by decide +kernel
theorem dL_law_793 : decode cL_law 793 = .ok (.invokevirtual 124, 3) := by decide +kernel
theorem dL_law_796 : decode cL_law 796 = .ok (.if_icmp .eq 28, 3) := by decide +kernel
theorem dL_law_799 : decode cL_law 799 = .ok (.iconst 0, 1) := by decide +kernel
theorem dL_law_800 : decode cL_law 800 = .ok (.ireturn, 1) := by decide +kernel
theorem dL_law_801 : decode cL_law 801 = .ok (.aload_n 1, 1) := by decide +kernel
theorem dL_law_802 : decode cL_law 802 = .ok (.aload_n 0, 1) := by decide +kernel
theorem dL_law_803 : decode cL_law 803 = .ok (.iload_n 3, 1) := by decide +kernel
theorem dL_law_804 : decode cL_law 804 = .ok (.iconst 1, 1) := by decide +kernel
theorem dL_law_805 : decode cL_law 805 = .ok (.iadd, 1) := by decide +kernel
theorem dL_law_806 : decode cL_law 806 = .ok (.iaload, 1) := by decide +kernel
theorem dL_law_807 : decode cL_law 807 = .ok (.invokevirtual 125, 3) := by decide +kernel
theorem dL_law_810 : decode cL_law 810 = .ok (.aload_n 2, 1) := by decide +kernel
theorem dL_law_811 : decode cL_law 811 = .ok (.aload_n 0, 1) := by decide +kernel
theorem dL_law_812 : decode cL_law 812 = .ok (.iload_n 3, 1) := by decide +kernel
theorem dL_law_813 : decode cL_law 813 = .ok (.iconst 1, 1) := by decide +kernel
theorem dL_law_814 : decode cL_law 814 = .ok (.iadd, 1) := by decide +kernel
theorem dL_law_815 : decode cL_law 815 = .ok (.iaload, 1) := by decide +kernel
theorem dL_law_816 : decode cL_law 816 = .ok (.invokevirtual 128, 3) := by decide +kernel
theorem dL_law_819 : decode cL_law 819 = .ok (.if_icmp .eq 5, 3) := by decide +kernel
theorem dL_law_822 : decode cL_law 822 = .ok (.iconst 0, 1) := by decide +kernel
theorem dL_law_823 : decode cL_law 823 = .ok (.ireturn, 1) := by decide +kernel
theorem dL_law_824 : decode cL_law 824 = .ok (.iinc 3 4, 3) := by decide +kernel
theorem dL_law_827 : decode cL_law 827 = .ok (.goto (-809), 3) := by decide +kernel
theorem dL_law_830 : decode cL_law 830 = .ok (.iconst 1, 1) := by decide +kernel
theorem dL_law_831 : decode cL_law 831 = .ok (.ireturn, 1) := by decide +kernel
end
section
/-! WORDS: one list for all methods: what the tables say that stays -/
def wsA : List Cond := lw_tbl.filter goodWord
theorem wsA_in : ∀ w ∈ wsA, w ∈ lw_tbl := fun _ h => (List.mem_filter.mp h).1
theorem wsA_mem {w : Cond} (n : Nat) (h : lw_tbl[n]? = some w) (g : goodWord w = true) : w ∈ wsA := List.mem_filter.mpr ⟨List.mem_of_getElem? h, g⟩
theorem wsA_good : ∀ w ∈ wsA, goodWord w = true := fun _ h => (List.mem_filter.mp h).2
theorem wsA_sub {ls : List Cond} {cB : Cond} (hl : ∀ w ∈ ls, w ∈ wsA) (hB : cB ∈ wsA) : GoodIn wsA (ls ++ (cB :: wsA)) := by
  intro w hw
  have hm : w ∈ wsA := by
    rcases List.mem_append.mp hw with h | h
    · exact hl w h
    · rcases List.mem_cons.mp h with h | h
      · rw [h]; exact hB
      · exact h
  exact ⟨hm, good_of_word (wsA_good w hm)⟩
theorem wsA_tbl {ls : List Cond} {cB : Cond} (hl : ∀ w ∈ ls, w ∈ wsA) (hB : cB ∈ wsA) : GoodIn lw_tbl (ls ++ (cB :: wsA)) := fun w h => ⟨wsA_in w (wsA_sub hl hB w h).1, (wsA_sub hl hB w h).2⟩
theorem gV4 {own C : String} {idx : Nat} {y : MethodName} {cB : Cond} (h1 : Cond.methodLink own idx y ∈ wsA) (h2 : Cond.instanceMethod y ∈ wsA) (h3 : Cond.selects C y y ∈ wsA) (h4 : Cond.initialized C ∈ wsA) (hB : cB ∈ wsA) : GoodIn wsA (wsV own idx C y (cB :: wsA)) :=
  wsA_sub (ls := [.methodLink own idx y, .instanceMethod y, .selects C y y, .initialized C]) (List.forall_mem_cons.mpr ⟨h1, List.forall_mem_cons.mpr ⟨h2, List.forall_mem_cons.mpr ⟨h3, List.forall_mem_cons.mpr ⟨h4, fun _ h => absurd h List.not_mem_nil⟩⟩⟩⟩) hB
theorem gV4L {own C : String} {idx : Nat} {y : MethodName} {cB : Cond} (h1 : Cond.methodLink own idx y ∈ wsA) (h2 : Cond.instanceMethod y ∈ wsA) (h3 : Cond.selects C y y ∈ wsA) (h4 : Cond.initialized C ∈ wsA) (hB : cB ∈ wsA) : GoodIn lw_tbl (wsV own idx C y (cB :: wsA)) := fun w h => ⟨wsA_in w (gV4 h1 h2 h3 h4 hB w h).1, (gV4 h1 h2 h3 h4 hB w h).2⟩
theorem gS3 {own : String} {idx : Nat} {y : MethodName} {cB : Cond} (h1 : Cond.methodLink own idx y ∈ wsA) (h2 : Cond.static y ∈ wsA) (h4 : Cond.initialized y.cls ∈ wsA) (hB : cB ∈ wsA) : GoodIn wsA (va_wsS own idx y (cB :: wsA)) :=
  wsA_sub (ls := [.methodLink own idx y, .static y, .initialized y.cls]) (List.forall_mem_cons.mpr ⟨h1, List.forall_mem_cons.mpr ⟨h2, List.forall_mem_cons.mpr ⟨h4, fun _ h => absurd h List.not_mem_nil⟩⟩⟩) hB
theorem gC1 {cB : Cond} (hB : cB ∈ wsA) : GoodIn wsA (cB :: wsA) := wsA_sub (ls := []) (fun _ h => absurd h List.not_mem_nil) hB
theorem gC1L {cB : Cond} (hB : cB ∈ wsA) : GoodIn lw_tbl (cB :: wsA) := fun w h => ⟨wsA_in w (gC1 hB w h).1, (gC1 hB w h).2⟩
set_option maxRecDepth 20000 in
theorem iX0 : ∀ w ∈ wsX00, w ∈ wsA := by decide +kernel
set_option maxRecDepth 20000 in
theorem iX1 : ∀ w ∈ wsX10, w ∈ wsA := by decide +kernel
set_option maxRecDepth 20000 in
theorem iX2 : ∀ w ∈ wsX20, w ∈ wsA := by decide +kernel
set_option maxRecDepth 20000 in
theorem iX3 : ∀ w ∈ wsX30, w ∈ wsA := by decide +kernel
set_option maxRecDepth 20000 in
theorem iX4 : ∀ w ∈ wsX40, w ∈ wsA := by decide +kernel
set_option maxRecDepth 20000 in
theorem iX5 : ∀ w ∈ wsX50, w ∈ wsA := by decide +kernel
set_option maxRecDepth 20000 in
theorem iX6 : ∀ w ∈ wsX60, w ∈ wsA := by decide +kernel
set_option maxRecDepth 20000 in
theorem iX7 : ∀ w ∈ wsX70, w ∈ wsA := by decide +kernel
theorem aw0 : (Cond.selects RX6 yX6_refuse yX6_refuse) ∈ wsA := wsA_mem 0 (by decide +kernel) (by decide +kernel)
theorem aw1 : (Cond.selects RX7 yX7_no yX7_no) ∈ wsA := wsA_mem 1 (by decide +kernel) (by decide +kernel)
theorem aw2 : (Cond.selects RX7 yX7_statement yX7_statement) ∈ wsA := wsA_mem 2 (by decide +kernel) (by decide +kernel)
theorem aw3 : (Cond.selects RX7 yX7_next yX7_next) ∈ wsA := wsA_mem 3 (by decide +kernel) (by decide +kernel)
theorem aw4 : (Cond.selects RX7 yX7_readsSetting yX7_readsSetting) ∈ wsA := wsA_mem 4 (by decide +kernel) (by decide +kernel)
theorem aw5 : (Cond.selects RX7 yX7_readsNumber yX7_readsNumber) ∈ wsA := wsA_mem 5 (by decide +kernel) (by decide +kernel)
theorem aw6 : (Cond.selects RX7 yX7_readsComer yX7_readsComer) ∈ wsA := wsA_mem 6 (by decide +kernel) (by decide +kernel)
theorem aw7 : (Cond.selects RX7 yX7_passesAll yX7_passesAll) ∈ wsA := wsA_mem 7 (by decide +kernel) (by decide +kernel)
theorem aw8 : (Cond.selects RX7 yX7_passes yX7_passes) ∈ wsA := wsA_mem 8 (by decide +kernel) (by decide +kernel)
theorem aw9 : (Cond.selects RX7 yX7_passOne yX7_passOne) ∈ wsA := wsA_mem 9 (by decide +kernel) (by decide +kernel)
theorem aw10 : (Cond.selects RX7 yX7_comesAs yX7_comesAs) ∈ wsA := wsA_mem 10 (by decide +kernel) (by decide +kernel)
theorem aw11 : (Cond.selects RX7 yX7_notSet yX7_notSet) ∈ wsA := wsA_mem 11 (by decide +kernel) (by decide +kernel)
theorem aw12 : (Cond.selects RX7 yX7_comesOne yX7_comesOne) ∈ wsA := wsA_mem 12 (by decide +kernel) (by decide +kernel)
theorem aw13 : (Cond.selects RX7 yX7_isComer yX7_isComer) ∈ wsA := wsA_mem 13 (by decide +kernel) (by decide +kernel)
theorem aw14 : (Cond.selects RX7 yX7_upTo yX7_upTo) ∈ wsA := wsA_mem 14 (by decide +kernel) (by decide +kernel)
theorem aw15 : (Cond.selects RX7 yX7_cupsBy yX7_cupsBy) ∈ wsA := wsA_mem 15 (by decide +kernel) (by decide +kernel)
theorem aw16 : (Cond.selects RX7 yX7_wantsInLine yX7_wantsInLine) ∈ wsA := wsA_mem 16 (by decide +kernel) (by decide +kernel)
theorem aw17 : (Cond.selects RX7 yX7_wantsSoon yX7_wantsSoon) ∈ wsA := wsA_mem 17 (by decide +kernel) (by decide +kernel)
theorem aw18 : (Cond.selects RX7 yX7_isFree yX7_isFree) ∈ wsA := wsA_mem 18 (by decide +kernel) (by decide +kernel)
theorem aw19 : (Cond.selects RX7 yX7_isOver yX7_isOver) ∈ wsA := wsA_mem 19 (by decide +kernel) (by decide +kernel)
theorem aw20 : (Cond.selects RX7 yX7_goesMinute yX7_goesMinute) ∈ wsA := wsA_mem 20 (by decide +kernel) (by decide +kernel)
theorem aw21 : (Cond.selects RX7 yX7_leaves yX7_leaves) ∈ wsA := wsA_mem 21 (by decide +kernel) (by decide +kernel)
theorem aw22 : (Cond.selects RX7 yX7_isServed yX7_isServed) ∈ wsA := wsA_mem 22 (by decide +kernel) (by decide +kernel)
theorem aw23 : (Cond.selects RX7 yX7_hotFor yX7_hotFor) ∈ wsA := wsA_mem 23 (by decide +kernel) (by decide +kernel)
theorem aw24 : (Cond.selects RX7 yX7_freeFor yX7_freeFor) ∈ wsA := wsA_mem 24 (by decide +kernel) (by decide +kernel)
theorem aw25 : (Cond.selects RX7 yX7_putsOn yX7_putsOn) ∈ wsA := wsA_mem 25 (by decide +kernel) (by decide +kernel)
theorem aw26 : (Cond.selects RX7 yX7_boilTime yX7_boilTime) ∈ wsA := wsA_mem 26 (by decide +kernel) (by decide +kernel)
theorem aw27 : (Cond.selects RX7 yX7_cools yX7_cools) ∈ wsA := wsA_mem 27 (by decide +kernel) (by decide +kernel)
theorem aw28 : (Cond.selects RX7 yX7_begins yX7_begins) ∈ wsA := wsA_mem 28 (by decide +kernel) (by decide +kernel)
theorem aw29 : (Cond.selects RX7 yX7_goesToEnd yX7_goesToEnd) ∈ wsA := wsA_mem 29 (by decide +kernel) (by decide +kernel)
theorem aw30 : (Cond.selects RX7 yX7_waitedAll yX7_waitedAll) ∈ wsA := wsA_mem 30 (by decide +kernel) (by decide +kernel)
theorem aw31 : (Cond.selects RX7 yX7_stateMany yX7_stateMany) ∈ wsA := wsA_mem 31 (by decide +kernel) (by decide +kernel)
theorem aw32 : (Cond.selects RX7 yX7_costNow yX7_costNow) ∈ wsA := wsA_mem 32 (by decide +kernel) (by decide +kernel)
theorem aw33 : (Cond.selects RX7 yX7_bestKind yX7_bestKind) ∈ wsA := wsA_mem 33 (by decide +kernel) (by decide +kernel)
theorem aw34 : (Cond.selects RX7 yX7_costAnew yX7_costAnew) ∈ wsA := wsA_mem 34 (by decide +kernel) (by decide +kernel)
theorem aw35 : (Cond.selects RX7 yX7_lower yX7_lower) ∈ wsA := wsA_mem 35 (by decide +kernel) (by decide +kernel)
theorem aw36 : (Cond.selects RX7 yX7_goesRounds yX7_goesRounds) ∈ wsA := wsA_mem 36 (by decide +kernel) (by decide +kernel)
theorem aw37 : (Cond.selects RX7 yX7_kindsDigits yX7_kindsDigits) ∈ wsA := wsA_mem 37 (by decide +kernel) (by decide +kernel)
theorem aw38 : (Cond.selects RX7 yX7_leastOfOneKind yX7_leastOfOneKind) ∈ wsA := wsA_mem 38 (by decide +kernel) (by decide +kernel)
theorem aw39 : (Cond.selects RX7 yX7_hours yX7_hours) ∈ wsA := wsA_mem 39 (by decide +kernel) (by decide +kernel)
theorem aw40 : (Cond.selects RX7 yX7_sorts yX7_sorts) ∈ wsA := wsA_mem 40 (by decide +kernel) (by decide +kernel)
theorem aw41 : (Cond.selects RX7 yX7_costOfRows yX7_costOfRows) ∈ wsA := wsA_mem 41 (by decide +kernel) (by decide +kernel)
theorem aw42 : (Cond.selects RX7 yX7_ferryBy yX7_ferryBy) ∈ wsA := wsA_mem 42 (by decide +kernel) (by decide +kernel)
theorem aw43 : (Cond.selects RX7 yX7_timesBy yX7_timesBy) ∈ wsA := wsA_mem 43 (by decide +kernel) (by decide +kernel)
theorem aw45 : (Cond.initialized RX6) ∈ wsA := wsA_mem 45 (by decide +kernel) (by decide +kernel)
theorem aw46 : (Cond.initialized RX2) ∈ wsA := wsA_mem 46 (by decide +kernel) (by decide +kernel)
theorem aw47 : (Cond.initialized RX1) ∈ wsA := wsA_mem 47 (by decide +kernel) (by decide +kernel)
theorem aw48 : (Cond.initialized RX3) ∈ wsA := wsA_mem 48 (by decide +kernel) (by decide +kernel)
theorem aw49 : (Cond.initialized RX5) ∈ wsA := wsA_mem 49 (by decide +kernel) (by decide +kernel)
theorem aw50 : (Cond.initialized RX0) ∈ wsA := wsA_mem 50 (by decide +kernel) (by decide +kernel)
theorem aw51 : (Cond.initialized RX4) ∈ wsA := wsA_mem 51 (by decide +kernel) (by decide +kernel)
theorem aw52 : (Cond.initialized RX7) ∈ wsA := wsA_mem 52 (by decide +kernel) (by decide +kernel)
theorem aw53 : (Cond.initialized "java/lang/System") ∈ wsA := wsA_mem 53 (by decide +kernel) (by decide +kernel)
theorem aw54 : (Cond.initialized "java/lang/Math") ∈ wsA := wsA_mem 54 (by decide +kernel) (by decide +kernel)
theorem aw85 : (Cond.fieldLink RX1 9 "FilledForOne$Comer" "kind" "I") ∈ wsA := wsA_mem 85 (by decide +kernel) (by decide +kernel)
theorem aw86 : (Cond.fieldLink RX6 80 "FilledForOne$Comer" "kind" "I") ∈ wsA := wsA_mem 86 (by decide +kernel) (by decide +kernel)
theorem aw87 : (Cond.fieldLink RX5 66 "FilledForOne$Comer" "kind" "I") ∈ wsA := wsA_mem 87 (by decide +kernel) (by decide +kernel)
theorem aw88 : (Cond.fieldLink RX2 147 "FilledForOne$Comer" "kind" "I") ∈ wsA := wsA_mem 88 (by decide +kernel) (by decide +kernel)
theorem aw89 : (Cond.fieldLink RX1 15 "FilledForOne$Comer" "figure" "I") ∈ wsA := wsA_mem 89 (by decide +kernel) (by decide +kernel)
theorem aw90 : (Cond.fieldLink RX6 92 "FilledForOne$Comer" "figure" "I") ∈ wsA := wsA_mem 90 (by decide +kernel) (by decide +kernel)
theorem aw91 : (Cond.fieldLink RX5 95 "FilledForOne$Comer" "figure" "I") ∈ wsA := wsA_mem 91 (by decide +kernel) (by decide +kernel)
theorem aw92 : (Cond.fieldLink RX2 177 "FilledForOne$Comer" "figure" "I") ∈ wsA := wsA_mem 92 (by decide +kernel) (by decide +kernel)
theorem aw93 : (Cond.fieldLink RX1 22 "FilledForOne$Comer" "minute" "I") ∈ wsA := wsA_mem 93 (by decide +kernel) (by decide +kernel)
theorem aw94 : (Cond.fieldLink RX0 31 "FilledForOne$Comer" "minute" "I") ∈ wsA := wsA_mem 94 (by decide +kernel) (by decide +kernel)
theorem aw95 : (Cond.fieldLink RX2 83 "FilledForOne$Comer" "minute" "I") ∈ wsA := wsA_mem 95 (by decide +kernel) (by decide +kernel)
theorem aw96 : (Cond.fieldLink RX5 117 "FilledForOne$Comer" "minute" "I") ∈ wsA := wsA_mem 96 (by decide +kernel) (by decide +kernel)
theorem aw97 : (Cond.fieldLink RX1 25 "FilledForOne$Comer" "wants" "I") ∈ wsA := wsA_mem 97 (by decide +kernel) (by decide +kernel)
theorem aw98 : (Cond.fieldLink RX0 36 "FilledForOne$Comer" "wants" "I") ∈ wsA := wsA_mem 98 (by decide +kernel) (by decide +kernel)
theorem aw99 : (Cond.fieldLink RX2 84 "FilledForOne$Comer" "wants" "I") ∈ wsA := wsA_mem 99 (by decide +kernel) (by decide +kernel)
theorem aw100 : (Cond.fieldLink RX1 28 "FilledForOne$Comer" "patience" "I") ∈ wsA := wsA_mem 100 (by decide +kernel) (by decide +kernel)
theorem aw101 : (Cond.fieldLink RX2 87 "FilledForOne$Comer" "patience" "I") ∈ wsA := wsA_mem 101 (by decide +kernel) (by decide +kernel)
theorem aw102 : (Cond.fieldLink RX1 31 "FilledForOne$Comer" "state" "I") ∈ wsA := wsA_mem 102 (by decide +kernel) (by decide +kernel)
theorem aw103 : (Cond.fieldLink RX2 63 "FilledForOne$Comer" "state" "I") ∈ wsA := wsA_mem 103 (by decide +kernel) (by decide +kernel)
theorem aw104 : (Cond.fieldLink RX5 48 "FilledForOne$Comer" "state" "I") ∈ wsA := wsA_mem 104 (by decide +kernel) (by decide +kernel)
theorem aw105 : (Cond.fieldLink RX1 34 "FilledForOne$Comer" "servedAt" "I") ∈ wsA := wsA_mem 105 (by decide +kernel) (by decide +kernel)
theorem aw106 : (Cond.fieldLink RX5 53 "FilledForOne$Comer" "servedAt" "I") ∈ wsA := wsA_mem 106 (by decide +kernel) (by decide +kernel)
theorem aw107 : (Cond.fieldLink RX2 137 "FilledForOne$Comer" "servedAt" "I") ∈ wsA := wsA_mem 107 (by decide +kernel) (by decide +kernel)
theorem aw131 : (Cond.fieldLink RX3 9 "FilledForOne$Kettle" "level" "I") ∈ wsA := wsA_mem 131 (by decide +kernel) (by decide +kernel)
theorem aw132 : (Cond.fieldLink RX5 106 "FilledForOne$Kettle" "level" "I") ∈ wsA := wsA_mem 132 (by decide +kernel) (by decide +kernel)
theorem aw133 : (Cond.fieldLink RX2 134 "FilledForOne$Kettle" "level" "I") ∈ wsA := wsA_mem 133 (by decide +kernel) (by decide +kernel)
theorem aw134 : (Cond.fieldLink RX3 15 "FilledForOne$Kettle" "warmth" "I") ∈ wsA := wsA_mem 134 (by decide +kernel) (by decide +kernel)
theorem aw135 : (Cond.fieldLink RX3 18 "FilledForOne$Kettle" "age" "I") ∈ wsA := wsA_mem 135 (by decide +kernel) (by decide +kernel)
theorem aw136 : (Cond.fieldLink RX3 21 "FilledForOne$Kettle" "busyTill" "I") ∈ wsA := wsA_mem 136 (by decide +kernel) (by decide +kernel)
theorem aw137 : (Cond.fieldLink RX3 24 "FilledForOne$Kettle" "putOnBy" "I") ∈ wsA := wsA_mem 137 (by decide +kernel) (by decide +kernel)
theorem aw138 : (Cond.fieldLink RX2 168 "FilledForOne$Kettle" "putOnBy" "I") ∈ wsA := wsA_mem 138 (by decide +kernel) (by decide +kernel)
theorem aw150 : (Cond.fieldLink RX2 18 "FilledForOne$Day" "settings" "[I") ∈ wsA := wsA_mem 150 (by decide +kernel) (by decide +kernel)
theorem aw151 : (Cond.fieldLink RX0 51 "FilledForOne$Day" "settings" "[I") ∈ wsA := wsA_mem 151 (by decide +kernel) (by decide +kernel)
theorem aw152 : (Cond.fieldLink RX5 91 "FilledForOne$Day" "settings" "[I") ∈ wsA := wsA_mem 152 (by decide +kernel) (by decide +kernel)
theorem aw153 : (Cond.fieldLink RX6 209 "FilledForOne$Day" "settings" "[I") ∈ wsA := wsA_mem 153 (by decide +kernel) (by decide +kernel)
theorem aw154 : (Cond.fieldLink RX2 25 "FilledForOne$Day" "comers" "[LFilledForOne$Comer;") ∈ wsA := wsA_mem 154 (by decide +kernel) (by decide +kernel)
theorem aw155 : (Cond.fieldLink RX0 27 "FilledForOne$Day" "comers" "[LFilledForOne$Comer;") ∈ wsA := wsA_mem 155 (by decide +kernel) (by decide +kernel)
theorem aw156 : (Cond.fieldLink RX5 44 "FilledForOne$Day" "comers" "[LFilledForOne$Comer;") ∈ wsA := wsA_mem 156 (by decide +kernel) (by decide +kernel)
theorem aw157 : (Cond.fieldLink RX6 76 "FilledForOne$Day" "comers" "[LFilledForOne$Comer;") ∈ wsA := wsA_mem 157 (by decide +kernel) (by decide +kernel)
theorem aw158 : (Cond.fieldLink RX4 61 "FilledForOne$Day" "comers" "[LFilledForOne$Comer;") ∈ wsA := wsA_mem 158 (by decide +kernel) (by decide +kernel)
theorem aw159 : (Cond.fieldLink RX2 32 "FilledForOne$Day" "kettles" "[LFilledForOne$Kettle;") ∈ wsA := wsA_mem 159 (by decide +kernel) (by decide +kernel)
theorem aw160 : (Cond.fieldLink RX6 103 "FilledForOne$Day" "kettles" "[LFilledForOne$Kettle;") ∈ wsA := wsA_mem 160 (by decide +kernel) (by decide +kernel)
theorem aw161 : (Cond.fieldLink RX5 102 "FilledForOne$Day" "kettles" "[LFilledForOne$Kettle;") ∈ wsA := wsA_mem 161 (by decide +kernel) (by decide +kernel)
theorem aw162 : (Cond.fieldLink RX2 37 "FilledForOne$Day" "line" "[I") ∈ wsA := wsA_mem 162 (by decide +kernel) (by decide +kernel)
theorem aw163 : (Cond.fieldLink RX6 135 "FilledForOne$Day" "line" "[I") ∈ wsA := wsA_mem 163 (by decide +kernel) (by decide +kernel)
theorem aw164 : (Cond.fieldLink RX0 22 "FilledForOne$Day" "known" "I") ∈ wsA := wsA_mem 164 (by decide +kernel) (by decide +kernel)
theorem aw165 : (Cond.fieldLink RX2 46 "FilledForOne$Day" "known" "I") ∈ wsA := wsA_mem 165 (by decide +kernel) (by decide +kernel)
theorem aw166 : (Cond.fieldLink RX5 78 "FilledForOne$Day" "known" "I") ∈ wsA := wsA_mem 166 (by decide +kernel) (by decide +kernel)
theorem aw167 : (Cond.fieldLink RX6 212 "FilledForOne$Day" "known" "I") ∈ wsA := wsA_mem 167 (by decide +kernel) (by decide +kernel)
theorem aw168 : (Cond.fieldLink RX2 50 "FilledForOne$Day" "lined" "I") ∈ wsA := wsA_mem 168 (by decide +kernel) (by decide +kernel)
theorem aw169 : (Cond.fieldLink RX6 132 "FilledForOne$Day" "lined" "I") ∈ wsA := wsA_mem 169 (by decide +kernel) (by decide +kernel)
theorem aw170 : (Cond.fieldLink RX2 53 "FilledForOne$Day" "minute" "I") ∈ wsA := wsA_mem 170 (by decide +kernel) (by decide +kernel)
theorem aw171 : (Cond.fieldLink RX6 107 "FilledForOne$Day" "minute" "I") ∈ wsA := wsA_mem 171 (by decide +kernel) (by decide +kernel)
theorem aw172 : (Cond.fieldLink RX5 22 "FilledForOne$Day" "boils" "I") ∈ wsA := wsA_mem 172 (by decide +kernel) (by decide +kernel)
theorem aw173 : (Cond.fieldLink RX2 161 "FilledForOne$Day" "boils" "I") ∈ wsA := wsA_mem 173 (by decide +kernel) (by decide +kernel)
theorem aw199 : (Cond.fieldLink RX5 12 "FilledForOne$Mind" "day" "LFilledForOne$Day;") ∈ wsA := wsA_mem 199 (by decide +kernel) (by decide +kernel)
theorem aw200 : (Cond.fieldLink RX6 62 "FilledForOne$Mind" "day" "LFilledForOne$Day;") ∈ wsA := wsA_mem 200 (by decide +kernel) (by decide +kernel)
theorem aw201 : (Cond.fieldLink RX5 111 "FilledForOne$Mind" "seed" "I") ∈ wsA := wsA_mem 201 (by decide +kernel) (by decide +kernel)
theorem aw213 : (Cond.fieldLink RX0 9 "FilledForOne$Arrivals" "minutes" "[I") ∈ wsA := wsA_mem 213 (by decide +kernel) (by decide +kernel)
theorem aw214 : (Cond.fieldLink RX0 15 "FilledForOne$Arrivals" "wants" "[I") ∈ wsA := wsA_mem 214 (by decide +kernel) (by decide +kernel)
theorem aw215 : (Cond.fieldLink RX0 18 "FilledForOne$Arrivals" "count" "I") ∈ wsA := wsA_mem 215 (by decide +kernel) (by decide +kernel)
theorem aw229 : (Cond.fieldLink RX4 9 "FilledForOne$Letters" "text" "[I") ∈ wsA := wsA_mem 229 (by decide +kernel) (by decide +kernel)
theorem aw230 : (Cond.fieldLink RX4 15 "FilledForOne$Letters" "length" "I") ∈ wsA := wsA_mem 230 (by decide +kernel) (by decide +kernel)
theorem aw231 : (Cond.fieldLink RX6 51 "FilledForOne$Letters" "length" "I") ∈ wsA := wsA_mem 231 (by decide +kernel) (by decide +kernel)
theorem aw232 : (Cond.fieldLink RX4 19 "FilledForOne$Letters" "at" "I") ∈ wsA := wsA_mem 232 (by decide +kernel) (by decide +kernel)
theorem aw240 : (Cond.fieldLink RX6 10 "FilledForOne" "now" "LFilledForOne$Day;") ∈ wsA := wsA_mem 240 (by decide +kernel) (by decide +kernel)
theorem aw241 : (Cond.fieldLink RX6 16 "FilledForOne" "kept" "LFilledForOne$Day;") ∈ wsA := wsA_mem 241 (by decide +kernel) (by decide +kernel)
theorem aw242 : (Cond.fieldLink RX6 22 "FilledForOne" "mind" "LFilledForOne$Mind;") ∈ wsA := wsA_mem 242 (by decide +kernel) (by decide +kernel)
theorem aw243 : (Cond.fieldLink RX6 29 "FilledForOne" "arrivals" "LFilledForOne$Arrivals;") ∈ wsA := wsA_mem 243 (by decide +kernel) (by decide +kernel)
theorem aw244 : (Cond.fieldLink RX6 36 "FilledForOne" "letters" "LFilledForOne$Letters;") ∈ wsA := wsA_mem 244 (by decide +kernel) (by decide +kernel)
theorem aw245 : (Cond.fieldLink RX6 40 "FilledForOne" "row" "[I") ∈ wsA := wsA_mem 245 (by decide +kernel) (by decide +kernel)
theorem aw246 : (Cond.fieldLink RX6 44 "FilledForOne" "refusals" "[I") ∈ wsA := wsA_mem 246 (by decide +kernel) (by decide +kernel)
theorem aw247 : (Cond.fieldLink RX6 191 "FilledForOne" "inRow" "I") ∈ wsA := wsA_mem 247 (by decide +kernel) (by decide +kernel)
theorem aw248 : (Cond.fieldLink RX6 205 "FilledForOne" "imageTaken" "Z") ∈ wsA := wsA_mem 248 (by decide +kernel) (by decide +kernel)
theorem aw272 : (Cond.methodLink RX6 47 yX6_refuse) ∈ wsA := wsA_mem 272 (by decide +kernel) (by decide +kernel)
theorem aw274 : (Cond.instanceMethod yX6_refuse) ∈ wsA := wsA_mem 274 (by decide +kernel) (by decide +kernel)
theorem aw275 : (Cond.code yX6_refuse cX6_refuse 3 (some .int)) ∈ wsA := wsA_mem 275 (by decide +kernel) (by decide +kernel)
theorem aw276 : (Cond.methodLink RX6 55 yX4_append) ∈ wsA := wsA_mem 276 (by decide +kernel) (by decide +kernel)
theorem aw277 : (Cond.instanceMethod yX4_append) ∈ wsA := wsA_mem 277 (by decide +kernel) (by decide +kernel)
theorem aw278 : (Cond.selects RX4 yX4_append yX4_append) ∈ wsA := wsA_mem 278 (by decide +kernel) (by decide +kernel)
theorem aw279 : (Cond.code yX4_append cX4_append 2 (some .int)) ∈ wsA := wsA_mem 279 (by decide +kernel) (by decide +kernel)
theorem aw284 : (Cond.methodLink RX6 58 yX5_take) ∈ wsA := wsA_mem 284 (by decide +kernel) (by decide +kernel)
theorem aw285 : (Cond.instanceMethod yX5_take) ∈ wsA := wsA_mem 285 (by decide +kernel) (by decide +kernel)
theorem aw286 : (Cond.selects RX5 yX5_take yX5_take) ∈ wsA := wsA_mem 286 (by decide +kernel) (by decide +kernel)
theorem aw287 : (Cond.code yX5_take cX5_take 2 none) ∈ wsA := wsA_mem 287 (by decide +kernel) (by decide +kernel)
theorem aw288 : (Cond.methodLink RX5 18 yX2_copy) ∈ wsA := wsA_mem 288 (by decide +kernel) (by decide +kernel)
theorem aw289 : (Cond.instanceMethod yX2_copy) ∈ wsA := wsA_mem 289 (by decide +kernel) (by decide +kernel)
theorem aw290 : (Cond.selects RX2 yX2_copy yX2_copy) ∈ wsA := wsA_mem 290 (by decide +kernel) (by decide +kernel)
theorem aw291 : (Cond.code yX2_copy cX2_copy 3 none) ∈ wsA := wsA_mem 291 (by decide +kernel) (by decide +kernel)
theorem aw292 : (Cond.methodLink RX2 40 arraycopyName) ∈ wsA := wsA_mem 292 (by decide +kernel) (by decide +kernel)
theorem aw293 : (Cond.static arraycopyName) ∈ wsA := wsA_mem 293 (by decide +kernel) (by decide +kernel)
theorem aw294 : (Cond.native arraycopyName) ∈ wsA := wsA_mem 294 (by decide +kernel) (by decide +kernel)
theorem aw295 : (Cond.methodLink RX2 56 yX1_copy) ∈ wsA := wsA_mem 295 (by decide +kernel) (by decide +kernel)
theorem aw296 : (Cond.instanceMethod yX1_copy) ∈ wsA := wsA_mem 296 (by decide +kernel) (by decide +kernel)
theorem aw297 : (Cond.selects RX1 yX1_copy yX1_copy) ∈ wsA := wsA_mem 297 (by decide +kernel) (by decide +kernel)
theorem aw298 : (Cond.code yX1_copy cX1_copy 2 none) ∈ wsA := wsA_mem 298 (by decide +kernel) (by decide +kernel)
theorem aw299 : (Cond.methodLink RX1 18 yX1_become) ∈ wsA := wsA_mem 299 (by decide +kernel) (by decide +kernel)
theorem aw300 : (Cond.instanceMethod yX1_become) ∈ wsA := wsA_mem 300 (by decide +kernel) (by decide +kernel)
theorem aw301 : (Cond.selects RX1 yX1_become yX1_become) ∈ wsA := wsA_mem 301 (by decide +kernel) (by decide +kernel)
theorem aw302 : (Cond.code yX1_become cX1_become 3 none) ∈ wsA := wsA_mem 302 (by decide +kernel) (by decide +kernel)
theorem aw303 : (Cond.methodLink RX2 60 yX3_copy) ∈ wsA := wsA_mem 303 (by decide +kernel) (by decide +kernel)
theorem aw304 : (Cond.instanceMethod yX3_copy) ∈ wsA := wsA_mem 304 (by decide +kernel) (by decide +kernel)
theorem aw305 : (Cond.selects RX3 yX3_copy yX3_copy) ∈ wsA := wsA_mem 305 (by decide +kernel) (by decide +kernel)
theorem aw306 : (Cond.code yX3_copy cX3_copy 2 none) ∈ wsA := wsA_mem 306 (by decide +kernel) (by decide +kernel)
theorem aw307 : (Cond.methodLink RX6 65 yX4_read) ∈ wsA := wsA_mem 307 (by decide +kernel) (by decide +kernel)
theorem aw308 : (Cond.instanceMethod yX4_read) ∈ wsA := wsA_mem 308 (by decide +kernel) (by decide +kernel)
theorem aw309 : (Cond.selects RX4 yX4_read yX4_read) ∈ wsA := wsA_mem 309 (by decide +kernel) (by decide +kernel)
theorem aw310 : (Cond.code yX4_read cX4_read 4 (some .int)) ∈ wsA := wsA_mem 310 (by decide +kernel) (by decide +kernel)
theorem aw311 : (Cond.methodLink RX4 22 yX4_skipStatement) ∈ wsA := wsA_mem 311 (by decide +kernel) (by decide +kernel)
theorem aw312 : (Cond.instanceMethod yX4_skipStatement) ∈ wsA := wsA_mem 312 (by decide +kernel) (by decide +kernel)
theorem aw313 : (Cond.selects RX4 yX4_skipStatement yX4_skipStatement) ∈ wsA := wsA_mem 313 (by decide +kernel) (by decide +kernel)
theorem aw314 : (Cond.code yX4_skipStatement cX4_skipStatement 1 (some .boolean)) ∈ wsA := wsA_mem 314 (by decide +kernel) (by decide +kernel)
theorem aw315 : (Cond.methodLink RX4 30 yX4_skip) ∈ wsA := wsA_mem 315 (by decide +kernel) (by decide +kernel)
theorem aw316 : (Cond.instanceMethod yX4_skip) ∈ wsA := wsA_mem 316 (by decide +kernel) (by decide +kernel)
theorem aw317 : (Cond.selects RX4 yX4_skip yX4_skip) ∈ wsA := wsA_mem 317 (by decide +kernel) (by decide +kernel)
theorem aw318 : (Cond.code yX4_skip cX4_skip 3 (some .boolean)) ∈ wsA := wsA_mem 318 (by decide +kernel) (by decide +kernel)
theorem aw319 : (Cond.methodLink RX4 38 yX4_letterAt) ∈ wsA := wsA_mem 319 (by decide +kernel) (by decide +kernel)
theorem aw320 : (Cond.instanceMethod yX4_letterAt) ∈ wsA := wsA_mem 320 (by decide +kernel) (by decide +kernel)
theorem aw321 : (Cond.selects RX4 yX4_letterAt yX4_letterAt) ∈ wsA := wsA_mem 321 (by decide +kernel) (by decide +kernel)
theorem aw322 : (Cond.code yX4_letterAt cX4_letterAt 2 (some .int)) ∈ wsA := wsA_mem 322 (by decide +kernel) (by decide +kernel)
theorem aw323 : (Cond.methodLink RX4 34 yX4_skipDigits) ∈ wsA := wsA_mem 323 (by decide +kernel) (by decide +kernel)
theorem aw324 : (Cond.instanceMethod yX4_skipDigits) ∈ wsA := wsA_mem 324 (by decide +kernel) (by decide +kernel)
theorem aw325 : (Cond.selects RX4 yX4_skipDigits yX4_skipDigits) ∈ wsA := wsA_mem 325 (by decide +kernel) (by decide +kernel)
theorem aw326 : (Cond.code yX4_skipDigits cX4_skipDigits 3 (some .boolean)) ∈ wsA := wsA_mem 326 (by decide +kernel) (by decide +kernel)
theorem aw327 : (Cond.methodLink RX4 26 yX4_carryOut) ∈ wsA := wsA_mem 327 (by decide +kernel) (by decide +kernel)
theorem aw328 : (Cond.instanceMethod yX4_carryOut) ∈ wsA := wsA_mem 328 (by decide +kernel) (by decide +kernel)
theorem aw329 : (Cond.selects RX4 yX4_carryOut yX4_carryOut) ∈ wsA := wsA_mem 329 (by decide +kernel) (by decide +kernel)
theorem aw330 : (Cond.code yX4_carryOut cX4_carryOut 6 (some .boolean)) ∈ wsA := wsA_mem 330 (by decide +kernel) (by decide +kernel)
theorem aw331 : (Cond.methodLink RX4 42 yX4_number) ∈ wsA := wsA_mem 331 (by decide +kernel) (by decide +kernel)
theorem aw332 : (Cond.instanceMethod yX4_number) ∈ wsA := wsA_mem 332 (by decide +kernel) (by decide +kernel)
theorem aw333 : (Cond.selects RX4 yX4_number yX4_number) ∈ wsA := wsA_mem 333 (by decide +kernel) (by decide +kernel)
theorem aw334 : (Cond.code yX4_number cX4_number 5 (some .int)) ∈ wsA := wsA_mem 334 (by decide +kernel) (by decide +kernel)
theorem aw335 : (Cond.methodLink RX4 46 yX2_settingRefusal) ∈ wsA := wsA_mem 335 (by decide +kernel) (by decide +kernel)
theorem aw336 : (Cond.instanceMethod yX2_settingRefusal) ∈ wsA := wsA_mem 336 (by decide +kernel) (by decide +kernel)
theorem aw337 : (Cond.selects RX2 yX2_settingRefusal yX2_settingRefusal) ∈ wsA := wsA_mem 337 (by decide +kernel) (by decide +kernel)
theorem aw338 : (Cond.code yX2_settingRefusal cX2_settingRefusal 5 (some .int)) ∈ wsA := wsA_mem 338 (by decide +kernel) (by decide +kernel)
theorem aw343 : (Cond.methodLink RX2 75 yX2_highestLevel) ∈ wsA := wsA_mem 343 (by decide +kernel) (by decide +kernel)
theorem aw344 : (Cond.instanceMethod yX2_highestLevel) ∈ wsA := wsA_mem 344 (by decide +kernel) (by decide +kernel)
theorem aw345 : (Cond.selects RX2 yX2_highestLevel yX2_highestLevel) ∈ wsA := wsA_mem 345 (by decide +kernel) (by decide +kernel)
theorem aw346 : (Cond.code yX2_highestLevel cX2_highestLevel 3 (some .int)) ∈ wsA := wsA_mem 346 (by decide +kernel) (by decide +kernel)
theorem aw347 : (Cond.methodLink RX2 98 yX2_kettlesInUse) ∈ wsA := wsA_mem 347 (by decide +kernel) (by decide +kernel)
theorem aw348 : (Cond.instanceMethod yX2_kettlesInUse) ∈ wsA := wsA_mem 348 (by decide +kernel) (by decide +kernel)
theorem aw349 : (Cond.selects RX2 yX2_kettlesInUse yX2_kettlesInUse) ∈ wsA := wsA_mem 349 (by decide +kernel) (by decide +kernel)
theorem aw350 : (Cond.code yX2_kettlesInUse cX2_kettlesInUse 1 (some .int)) ∈ wsA := wsA_mem 350 (by decide +kernel) (by decide +kernel)
theorem aw351 : (Cond.methodLink RX2 183 Lib.Math.max.name) ∈ wsA := wsA_mem 351 (by decide +kernel) (by decide +kernel)
theorem aw352 : (Cond.static Lib.Math.max.name) ∈ wsA := wsA_mem 352 (by decide +kernel) (by decide +kernel)
theorem aw353 : (Cond.code Lib.Math.max.name Lib.Math.max.code 2 (some .int)) ∈ wsA := wsA_mem 353 (by decide +kernel) (by decide +kernel)
theorem aw354 : (Cond.methodLink RX4 51 yX2_change) ∈ wsA := wsA_mem 354 (by decide +kernel) (by decide +kernel)
theorem aw355 : (Cond.instanceMethod yX2_change) ∈ wsA := wsA_mem 355 (by decide +kernel) (by decide +kernel)
theorem aw356 : (Cond.selects RX2 yX2_change yX2_change) ∈ wsA := wsA_mem 356 (by decide +kernel) (by decide +kernel)
theorem aw357 : (Cond.code yX2_change cX2_change 4 (some .int)) ∈ wsA := wsA_mem 357 (by decide +kernel) (by decide +kernel)
theorem aw358 : (Cond.methodLink RX4 54 yX2_add) ∈ wsA := wsA_mem 358 (by decide +kernel) (by decide +kernel)
theorem aw359 : (Cond.instanceMethod yX2_add) ∈ wsA := wsA_mem 359 (by decide +kernel) (by decide +kernel)
theorem aw360 : (Cond.selects RX2 yX2_add yX2_add) ∈ wsA := wsA_mem 360 (by decide +kernel) (by decide +kernel)
theorem aw361 : (Cond.code yX2_add cX2_add 8 (some .boolean)) ∈ wsA := wsA_mem 361 (by decide +kernel) (by decide +kernel)
theorem aw362 : (Cond.methodLink RX2 79 yX1_become) ∈ wsA := wsA_mem 362 (by decide +kernel) (by decide +kernel)
theorem aw363 : (Cond.methodLink RX4 58 yX2_hasComer) ∈ wsA := wsA_mem 363 (by decide +kernel) (by decide +kernel)
theorem aw364 : (Cond.instanceMethod yX2_hasComer) ∈ wsA := wsA_mem 364 (by decide +kernel) (by decide +kernel)
theorem aw365 : (Cond.selects RX2 yX2_hasComer yX2_hasComer) ∈ wsA := wsA_mem 365 (by decide +kernel) (by decide +kernel)
theorem aw366 : (Cond.code yX2_hasComer cX2_hasComer 2 (some .boolean)) ∈ wsA := wsA_mem 366 (by decide +kernel) (by decide +kernel)
theorem aw367 : (Cond.methodLink RX4 65 yX1_become) ∈ wsA := wsA_mem 367 (by decide +kernel) (by decide +kernel)
theorem aw368 : (Cond.methodLink RX6 69 yX2_copy) ∈ wsA := wsA_mem 368 (by decide +kernel) (by decide +kernel)
theorem aw373 : (Cond.methodLink RX6 72 yX2_hasComer) ∈ wsA := wsA_mem 373 (by decide +kernel) (by decide +kernel)
theorem aw374 : (Cond.methodLink RX6 85 yX2_upTo) ∈ wsA := wsA_mem 374 (by decide +kernel) (by decide +kernel)
theorem aw375 : (Cond.instanceMethod yX2_upTo) ∈ wsA := wsA_mem 375 (by decide +kernel) (by decide +kernel)
theorem aw376 : (Cond.selects RX2 yX2_upTo yX2_upTo) ∈ wsA := wsA_mem 376 (by decide +kernel) (by decide +kernel)
theorem aw377 : (Cond.code yX2_upTo cX2_upTo 4 (some .int)) ∈ wsA := wsA_mem 377 (by decide +kernel) (by decide +kernel)
theorem aw378 : (Cond.methodLink RX2 174 yX2_wantsInLine) ∈ wsA := wsA_mem 378 (by decide +kernel) (by decide +kernel)
theorem aw379 : (Cond.instanceMethod yX2_wantsInLine) ∈ wsA := wsA_mem 379 (by decide +kernel) (by decide +kernel)
theorem aw380 : (Cond.selects RX2 yX2_wantsInLine yX2_wantsInLine) ∈ wsA := wsA_mem 380 (by decide +kernel) (by decide +kernel)
theorem aw381 : (Cond.code yX2_wantsInLine cX2_wantsInLine 3 (some .int)) ∈ wsA := wsA_mem 381 (by decide +kernel) (by decide +kernel)
theorem aw382 : (Cond.methodLink RX2 180 yX2_wantsToCome) ∈ wsA := wsA_mem 382 (by decide +kernel) (by decide +kernel)
theorem aw383 : (Cond.instanceMethod yX2_wantsToCome) ∈ wsA := wsA_mem 383 (by decide +kernel) (by decide +kernel)
theorem aw384 : (Cond.selects RX2 yX2_wantsToCome yX2_wantsToCome) ∈ wsA := wsA_mem 384 (by decide +kernel) (by decide +kernel)
theorem aw385 : (Cond.code yX2_wantsToCome cX2_wantsToCome 4 (some .int)) ∈ wsA := wsA_mem 385 (by decide +kernel) (by decide +kernel)
theorem aw386 : (Cond.methodLink RX2 189 Lib.Math.min.name) ∈ wsA := wsA_mem 386 (by decide +kernel) (by decide +kernel)
theorem aw387 : (Cond.static Lib.Math.min.name) ∈ wsA := wsA_mem 387 (by decide +kernel) (by decide +kernel)
theorem aw388 : (Cond.code Lib.Math.min.name Lib.Math.min.code 2 (some .int)) ∈ wsA := wsA_mem 388 (by decide +kernel) (by decide +kernel)
theorem aw389 : (Cond.methodLink RX6 89 yX1_tell) ∈ wsA := wsA_mem 389 (by decide +kernel) (by decide +kernel)
theorem aw390 : (Cond.instanceMethod yX1_tell) ∈ wsA := wsA_mem 390 (by decide +kernel) (by decide +kernel)
theorem aw391 : (Cond.selects RX1 yX1_tell yX1_tell) ∈ wsA := wsA_mem 391 (by decide +kernel) (by decide +kernel)
theorem aw392 : (Cond.code yX1_tell cX1_tell 2 (some .int)) ∈ wsA := wsA_mem 392 (by decide +kernel) (by decide +kernel)
theorem aw393 : (Cond.methodLink RX1 37 yX1_waited) ∈ wsA := wsA_mem 393 (by decide +kernel) (by decide +kernel)
theorem aw394 : (Cond.instanceMethod yX1_waited) ∈ wsA := wsA_mem 394 (by decide +kernel) (by decide +kernel)
theorem aw395 : (Cond.selects RX1 yX1_waited yX1_waited) ∈ wsA := wsA_mem 395 (by decide +kernel) (by decide +kernel)
theorem aw396 : (Cond.code yX1_waited cX1_waited 1 (some .int)) ∈ wsA := wsA_mem 396 (by decide +kernel) (by decide +kernel)
theorem aw401 : (Cond.methodLink RX6 95 yX1_become) ∈ wsA := wsA_mem 401 (by decide +kernel) (by decide +kernel)
theorem aw406 : (Cond.methodLink RX6 99 yX2_kettlesInUse) ∈ wsA := wsA_mem 406 (by decide +kernel) (by decide +kernel)
theorem aw407 : (Cond.methodLink RX6 110 yX3_tell) ∈ wsA := wsA_mem 407 (by decide +kernel) (by decide +kernel)
theorem aw408 : (Cond.instanceMethod yX3_tell) ∈ wsA := wsA_mem 408 (by decide +kernel) (by decide +kernel)
theorem aw409 : (Cond.selects RX3 yX3_tell yX3_tell) ∈ wsA := wsA_mem 409 (by decide +kernel) (by decide +kernel)
theorem aw410 : (Cond.code yX3_tell cX3_tell 3 (some .int)) ∈ wsA := wsA_mem 410 (by decide +kernel) (by decide +kernel)
theorem aw411 : (Cond.methodLink RX3 31 Lib.Math.max.name) ∈ wsA := wsA_mem 411 (by decide +kernel) (by decide +kernel)
theorem aw416 : (Cond.methodLink RX6 115 yX2_settingRefusal) ∈ wsA := wsA_mem 416 (by decide +kernel) (by decide +kernel)
theorem aw417 : (Cond.methodLink RX6 118 yX2_change) ∈ wsA := wsA_mem 417 (by decide +kernel) (by decide +kernel)
theorem aw422 : (Cond.methodLink RX6 121 yX2_isOver) ∈ wsA := wsA_mem 422 (by decide +kernel) (by decide +kernel)
theorem aw423 : (Cond.instanceMethod yX2_isOver) ∈ wsA := wsA_mem 423 (by decide +kernel) (by decide +kernel)
theorem aw424 : (Cond.selects RX2 yX2_isOver yX2_isOver) ∈ wsA := wsA_mem 424 (by decide +kernel) (by decide +kernel)
theorem aw425 : (Cond.code yX2_isOver cX2_isOver 1 (some .boolean)) ∈ wsA := wsA_mem 425 (by decide +kernel) (by decide +kernel)
theorem aw426 : (Cond.methodLink RX2 90 yX2_comersWith) ∈ wsA := wsA_mem 426 (by decide +kernel) (by decide +kernel)
theorem aw427 : (Cond.instanceMethod yX2_comersWith) ∈ wsA := wsA_mem 427 (by decide +kernel) (by decide +kernel)
theorem aw428 : (Cond.selects RX2 yX2_comersWith yX2_comersWith) ∈ wsA := wsA_mem 428 (by decide +kernel) (by decide +kernel)
theorem aw429 : (Cond.code yX2_comersWith cX2_comersWith 4 (some .int)) ∈ wsA := wsA_mem 429 (by decide +kernel) (by decide +kernel)
theorem aw430 : (Cond.methodLink RX2 94 yX2_allFree) ∈ wsA := wsA_mem 430 (by decide +kernel) (by decide +kernel)
theorem aw431 : (Cond.instanceMethod yX2_allFree) ∈ wsA := wsA_mem 431 (by decide +kernel) (by decide +kernel)
theorem aw432 : (Cond.selects RX2 yX2_allFree yX2_allFree) ∈ wsA := wsA_mem 432 (by decide +kernel) (by decide +kernel)
theorem aw433 : (Cond.code yX2_allFree cX2_allFree 2 (some .boolean)) ∈ wsA := wsA_mem 433 (by decide +kernel) (by decide +kernel)
theorem aw434 : (Cond.methodLink RX2 101 yX3_isFree) ∈ wsA := wsA_mem 434 (by decide +kernel) (by decide +kernel)
theorem aw435 : (Cond.instanceMethod yX3_isFree) ∈ wsA := wsA_mem 435 (by decide +kernel) (by decide +kernel)
theorem aw436 : (Cond.selects RX3 yX3_isFree yX3_isFree) ∈ wsA := wsA_mem 436 (by decide +kernel) (by decide +kernel)
theorem aw437 : (Cond.code yX3_isFree cX3_isFree 2 (some .boolean)) ∈ wsA := wsA_mem 437 (by decide +kernel) (by decide +kernel)
theorem aw438 : (Cond.methodLink RX6 125 yX2_pass) ∈ wsA := wsA_mem 438 (by decide +kernel) (by decide +kernel)
theorem aw439 : (Cond.instanceMethod yX2_pass) ∈ wsA := wsA_mem 439 (by decide +kernel) (by decide +kernel)
theorem aw440 : (Cond.selects RX2 yX2_pass yX2_pass) ∈ wsA := wsA_mem 440 (by decide +kernel) (by decide +kernel)
theorem aw441 : (Cond.code yX2_pass cX2_pass 3 none) ∈ wsA := wsA_mem 441 (by decide +kernel) (by decide +kernel)
theorem aw442 : (Cond.methodLink RX2 105 yX2_isOver) ∈ wsA := wsA_mem 442 (by decide +kernel) (by decide +kernel)
theorem aw443 : (Cond.methodLink RX2 108 yX2_passMinute) ∈ wsA := wsA_mem 443 (by decide +kernel) (by decide +kernel)
theorem aw444 : (Cond.instanceMethod yX2_passMinute) ∈ wsA := wsA_mem 444 (by decide +kernel) (by decide +kernel)
theorem aw445 : (Cond.selects RX2 yX2_passMinute yX2_passMinute) ∈ wsA := wsA_mem 445 (by decide +kernel) (by decide +kernel)
theorem aw446 : (Cond.code yX2_passMinute cX2_passMinute 2 none) ∈ wsA := wsA_mem 446 (by decide +kernel) (by decide +kernel)
theorem aw447 : (Cond.methodLink RX2 111 yX2_lineUp) ∈ wsA := wsA_mem 447 (by decide +kernel) (by decide +kernel)
theorem aw448 : (Cond.instanceMethod yX2_lineUp) ∈ wsA := wsA_mem 448 (by decide +kernel) (by decide +kernel)
theorem aw449 : (Cond.selects RX2 yX2_lineUp yX2_lineUp) ∈ wsA := wsA_mem 449 (by decide +kernel) (by decide +kernel)
theorem aw450 : (Cond.code yX2_lineUp cX2_lineUp 2 none) ∈ wsA := wsA_mem 450 (by decide +kernel) (by decide +kernel)
theorem aw451 : (Cond.methodLink RX2 114 yX2_loseImpatient) ∈ wsA := wsA_mem 451 (by decide +kernel) (by decide +kernel)
theorem aw452 : (Cond.instanceMethod yX2_loseImpatient) ∈ wsA := wsA_mem 452 (by decide +kernel) (by decide +kernel)
theorem aw453 : (Cond.selects RX2 yX2_loseImpatient yX2_loseImpatient) ∈ wsA := wsA_mem 453 (by decide +kernel) (by decide +kernel)
theorem aw454 : (Cond.code yX2_loseImpatient cX2_loseImpatient 3 none) ∈ wsA := wsA_mem 454 (by decide +kernel) (by decide +kernel)
theorem aw455 : (Cond.methodLink RX2 124 yX2_closeUp) ∈ wsA := wsA_mem 455 (by decide +kernel) (by decide +kernel)
theorem aw456 : (Cond.instanceMethod yX2_closeUp) ∈ wsA := wsA_mem 456 (by decide +kernel) (by decide +kernel)
theorem aw457 : (Cond.selects RX2 yX2_closeUp yX2_closeUp) ∈ wsA := wsA_mem 457 (by decide +kernel) (by decide +kernel)
theorem aw458 : (Cond.code yX2_closeUp cX2_closeUp 3 none) ∈ wsA := wsA_mem 458 (by decide +kernel) (by decide +kernel)
theorem aw459 : (Cond.methodLink RX2 117 yX2_serve) ∈ wsA := wsA_mem 459 (by decide +kernel) (by decide +kernel)
theorem aw460 : (Cond.instanceMethod yX2_serve) ∈ wsA := wsA_mem 460 (by decide +kernel) (by decide +kernel)
theorem aw461 : (Cond.selects RX2 yX2_serve yX2_serve) ∈ wsA := wsA_mem 461 (by decide +kernel) (by decide +kernel)
theorem aw462 : (Cond.code yX2_serve cX2_serve 4 (some .boolean)) ∈ wsA := wsA_mem 462 (by decide +kernel) (by decide +kernel)
theorem aw463 : (Cond.methodLink RX2 130 yX2_firstReady) ∈ wsA := wsA_mem 463 (by decide +kernel) (by decide +kernel)
theorem aw464 : (Cond.instanceMethod yX2_firstReady) ∈ wsA := wsA_mem 464 (by decide +kernel) (by decide +kernel)
theorem aw465 : (Cond.selects RX2 yX2_firstReady yX2_firstReady) ∈ wsA := wsA_mem 465 (by decide +kernel) (by decide +kernel)
theorem aw466 : (Cond.code yX2_firstReady cX2_firstReady 3 (some (.object "FilledForOne$Kettle"))) ∈ wsA := wsA_mem 466 (by decide +kernel) (by decide +kernel)
theorem aw467 : (Cond.methodLink RX2 164 yX3_isReady) ∈ wsA := wsA_mem 467 (by decide +kernel) (by decide +kernel)
theorem aw468 : (Cond.instanceMethod yX3_isReady) ∈ wsA := wsA_mem 468 (by decide +kernel) (by decide +kernel)
theorem aw469 : (Cond.selects RX3 yX3_isReady yX3_isReady) ∈ wsA := wsA_mem 469 (by decide +kernel) (by decide +kernel)
theorem aw470 : (Cond.code yX3_isReady cX3_isReady 3 (some .boolean)) ∈ wsA := wsA_mem 470 (by decide +kernel) (by decide +kernel)
theorem aw471 : (Cond.methodLink RX2 120 yX2_boil) ∈ wsA := wsA_mem 471 (by decide +kernel) (by decide +kernel)
theorem aw472 : (Cond.instanceMethod yX2_boil) ∈ wsA := wsA_mem 472 (by decide +kernel) (by decide +kernel)
theorem aw473 : (Cond.selects RX2 yX2_boil yX2_boil) ∈ wsA := wsA_mem 473 (by decide +kernel) (by decide +kernel)
theorem aw474 : (Cond.code yX2_boil cX2_boil 5 none) ∈ wsA := wsA_mem 474 (by decide +kernel) (by decide +kernel)
theorem aw475 : (Cond.methodLink RX2 140 yX2_firstFree) ∈ wsA := wsA_mem 475 (by decide +kernel) (by decide +kernel)
theorem aw476 : (Cond.instanceMethod yX2_firstFree) ∈ wsA := wsA_mem 476 (by decide +kernel) (by decide +kernel)
theorem aw477 : (Cond.selects RX2 yX2_firstFree yX2_firstFree) ∈ wsA := wsA_mem 477 (by decide +kernel) (by decide +kernel)
theorem aw478 : (Cond.code yX2_firstFree cX2_firstFree 2 (some (.object "FilledForOne$Kettle"))) ∈ wsA := wsA_mem 478 (by decide +kernel) (by decide +kernel)
theorem aw479 : (Cond.methodLink RX2 144 yX2_waitsForOwn) ∈ wsA := wsA_mem 479 (by decide +kernel) (by decide +kernel)
theorem aw480 : (Cond.instanceMethod yX2_waitsForOwn) ∈ wsA := wsA_mem 480 (by decide +kernel) (by decide +kernel)
theorem aw481 : (Cond.selects RX2 yX2_waitsForOwn yX2_waitsForOwn) ∈ wsA := wsA_mem 481 (by decide +kernel) (by decide +kernel)
theorem aw482 : (Cond.code yX2_waitsForOwn cX2_waitsForOwn 3 (some .boolean)) ∈ wsA := wsA_mem 482 (by decide +kernel) (by decide +kernel)
theorem aw483 : (Cond.methodLink RX2 150 yX2_upTo) ∈ wsA := wsA_mem 483 (by decide +kernel) (by decide +kernel)
theorem aw484 : (Cond.methodLink RX2 154 yX3_fill) ∈ wsA := wsA_mem 484 (by decide +kernel) (by decide +kernel)
theorem aw485 : (Cond.instanceMethod yX3_fill) ∈ wsA := wsA_mem 485 (by decide +kernel) (by decide +kernel)
theorem aw486 : (Cond.selects RX3 yX3_fill yX3_fill) ∈ wsA := wsA_mem 486 (by decide +kernel) (by decide +kernel)
theorem aw487 : (Cond.code yX3_fill cX3_fill 2 none) ∈ wsA := wsA_mem 487 (by decide +kernel) (by decide +kernel)
theorem aw488 : (Cond.methodLink RX2 157 yX3_putOn) ∈ wsA := wsA_mem 488 (by decide +kernel) (by decide +kernel)
theorem aw489 : (Cond.instanceMethod yX3_putOn) ∈ wsA := wsA_mem 489 (by decide +kernel) (by decide +kernel)
theorem aw490 : (Cond.selects RX3 yX3_putOn yX3_putOn) ∈ wsA := wsA_mem 490 (by decide +kernel) (by decide +kernel)
theorem aw491 : (Cond.code yX3_putOn cX3_putOn 4 none) ∈ wsA := wsA_mem 491 (by decide +kernel) (by decide +kernel)
theorem aw493 : (Cond.static yX6_heatingMinutes) ∈ wsA := wsA_mem 493 (by decide +kernel) (by decide +kernel)
theorem aw494 : (Cond.code yX6_heatingMinutes cX6_heatingMinutes 4 (some .int)) ∈ wsA := wsA_mem 494 (by decide +kernel) (by decide +kernel)
theorem aw495 : (Cond.methodLink RX2 127 yX2_coolDown) ∈ wsA := wsA_mem 495 (by decide +kernel) (by decide +kernel)
theorem aw496 : (Cond.instanceMethod yX2_coolDown) ∈ wsA := wsA_mem 496 (by decide +kernel) (by decide +kernel)
theorem aw497 : (Cond.selects RX2 yX2_coolDown yX2_coolDown) ∈ wsA := wsA_mem 497 (by decide +kernel) (by decide +kernel)
theorem aw498 : (Cond.code yX2_coolDown cX2_coolDown 2 none) ∈ wsA := wsA_mem 498 (by decide +kernel) (by decide +kernel)
theorem aw499 : (Cond.methodLink RX2 171 yX3_cool) ∈ wsA := wsA_mem 499 (by decide +kernel) (by decide +kernel)
theorem aw500 : (Cond.instanceMethod yX3_cool) ∈ wsA := wsA_mem 500 (by decide +kernel) (by decide +kernel)
theorem aw501 : (Cond.selects RX3 yX3_cool yX3_cool) ∈ wsA := wsA_mem 501 (by decide +kernel) (by decide +kernel)
theorem aw502 : (Cond.code yX3_cool cX3_cool 2 none) ∈ wsA := wsA_mem 502 (by decide +kernel) (by decide +kernel)
theorem aw507 : (Cond.methodLink RX6 129 yX2_begin) ∈ wsA := wsA_mem 507 (by decide +kernel) (by decide +kernel)
theorem aw508 : (Cond.instanceMethod yX2_begin) ∈ wsA := wsA_mem 508 (by decide +kernel) (by decide +kernel)
theorem aw509 : (Cond.selects RX2 yX2_begin yX2_begin) ∈ wsA := wsA_mem 509 (by decide +kernel) (by decide +kernel)
theorem aw510 : (Cond.code yX2_begin cX2_begin 2 none) ∈ wsA := wsA_mem 510 (by decide +kernel) (by decide +kernel)
theorem aw511 : (Cond.methodLink RX2 66 yX3_begin) ∈ wsA := wsA_mem 511 (by decide +kernel) (by decide +kernel)
theorem aw512 : (Cond.instanceMethod yX3_begin) ∈ wsA := wsA_mem 512 (by decide +kernel) (by decide +kernel)
theorem aw513 : (Cond.selects RX3 yX3_begin yX3_begin) ∈ wsA := wsA_mem 513 (by decide +kernel) (by decide +kernel)
theorem aw514 : (Cond.code yX3_begin cX3_begin 1 none) ∈ wsA := wsA_mem 514 (by decide +kernel) (by decide +kernel)
theorem aw523 : (Cond.methodLink RX6 138 yX5_restOfDay) ∈ wsA := wsA_mem 523 (by decide +kernel) (by decide +kernel)
theorem aw524 : (Cond.instanceMethod yX5_restOfDay) ∈ wsA := wsA_mem 524 (by decide +kernel) (by decide +kernel)
theorem aw525 : (Cond.selects RX5 yX5_restOfDay yX5_restOfDay) ∈ wsA := wsA_mem 525 (by decide +kernel) (by decide +kernel)
theorem aw526 : (Cond.code yX5_restOfDay cX5_restOfDay 2 (some .int)) ∈ wsA := wsA_mem 526 (by decide +kernel) (by decide +kernel)
theorem aw527 : (Cond.methodLink RX5 26 yX2_pass) ∈ wsA := wsA_mem 527 (by decide +kernel) (by decide +kernel)
theorem aw528 : (Cond.methodLink RX5 30 yX2_allWaited) ∈ wsA := wsA_mem 528 (by decide +kernel) (by decide +kernel)
theorem aw529 : (Cond.instanceMethod yX2_allWaited) ∈ wsA := wsA_mem 529 (by decide +kernel) (by decide +kernel)
theorem aw530 : (Cond.selects RX2 yX2_allWaited yX2_allWaited) ∈ wsA := wsA_mem 530 (by decide +kernel) (by decide +kernel)
theorem aw531 : (Cond.code yX2_allWaited cX2_allWaited 3 (some .int)) ∈ wsA := wsA_mem 531 (by decide +kernel) (by decide +kernel)
theorem aw532 : (Cond.methodLink RX2 192 yX1_waited) ∈ wsA := wsA_mem 532 (by decide +kernel) (by decide +kernel)
theorem aw533 : (Cond.methodLink RX5 34 yX2_comersWith) ∈ wsA := wsA_mem 533 (by decide +kernel) (by decide +kernel)
theorem aw534 : (Cond.methodLink RX5 38 yX2_cupsLeft) ∈ wsA := wsA_mem 534 (by decide +kernel) (by decide +kernel)
theorem aw535 : (Cond.instanceMethod yX2_cupsLeft) ∈ wsA := wsA_mem 535 (by decide +kernel) (by decide +kernel)
theorem aw536 : (Cond.selects RX2 yX2_cupsLeft yX2_cupsLeft) ∈ wsA := wsA_mem 536 (by decide +kernel) (by decide +kernel)
theorem aw537 : (Cond.code yX2_cupsLeft cX2_cupsLeft 3 (some .int)) ∈ wsA := wsA_mem 537 (by decide +kernel) (by decide +kernel)
theorem aw538 : (Cond.methodLink RX5 41 yX2_cost) ∈ wsA := wsA_mem 538 (by decide +kernel) (by decide +kernel)
theorem aw539 : (Cond.instanceMethod yX2_cost) ∈ wsA := wsA_mem 539 (by decide +kernel) (by decide +kernel)
theorem aw540 : (Cond.selects RX2 yX2_cost yX2_cost) ∈ wsA := wsA_mem 540 (by decide +kernel) (by decide +kernel)
theorem aw541 : (Cond.code yX2_cost cX2_cost 1 (some .int)) ∈ wsA := wsA_mem 541 (by decide +kernel) (by decide +kernel)
theorem aw542 : (Cond.methodLink RX2 195 yX2_allWaited) ∈ wsA := wsA_mem 542 (by decide +kernel) (by decide +kernel)
theorem aw543 : (Cond.methodLink RX2 198 yX2_cupsLeft) ∈ wsA := wsA_mem 543 (by decide +kernel) (by decide +kernel)
theorem aw548 : (Cond.methodLink RX6 141 yX5_servedAt) ∈ wsA := wsA_mem 548 (by decide +kernel) (by decide +kernel)
theorem aw549 : (Cond.instanceMethod yX5_servedAt) ∈ wsA := wsA_mem 549 (by decide +kernel) (by decide +kernel)
theorem aw550 : (Cond.selects RX5 yX5_servedAt yX5_servedAt) ∈ wsA := wsA_mem 550 (by decide +kernel) (by decide +kernel)
theorem aw551 : (Cond.code yX5_servedAt cX5_servedAt 3 (some .int)) ∈ wsA := wsA_mem 551 (by decide +kernel) (by decide +kernel)
theorem aw556 : (Cond.methodLink RX6 144 yX5_bestKind) ∈ wsA := wsA_mem 556 (by decide +kernel) (by decide +kernel)
theorem aw557 : (Cond.instanceMethod yX5_bestKind) ∈ wsA := wsA_mem 557 (by decide +kernel) (by decide +kernel)
theorem aw558 : (Cond.selects RX5 yX5_bestKind yX5_bestKind) ∈ wsA := wsA_mem 558 (by decide +kernel) (by decide +kernel)
theorem aw559 : (Cond.code yX5_bestKind cX5_bestKind 9 (some .int)) ∈ wsA := wsA_mem 559 (by decide +kernel) (by decide +kernel)
theorem aw560 : (Cond.constant RX5 71 2147483647) ∈ wsA := wsA_mem 560 (by decide +kernel) (by decide +kernel)
theorem aw561 : (Cond.methodLink RX5 72 yX5_costAnew) ∈ wsA := wsA_mem 561 (by decide +kernel) (by decide +kernel)
theorem aw562 : (Cond.instanceMethod yX5_costAnew) ∈ wsA := wsA_mem 562 (by decide +kernel) (by decide +kernel)
theorem aw563 : (Cond.selects RX5 yX5_costAnew yX5_costAnew) ∈ wsA := wsA_mem 563 (by decide +kernel) (by decide +kernel)
theorem aw564 : (Cond.code yX5_costAnew cX5_costAnew 2 (some .int)) ∈ wsA := wsA_mem 564 (by decide +kernel) (by decide +kernel)
theorem aw565 : (Cond.methodLink RX5 56 yX2_begin) ∈ wsA := wsA_mem 565 (by decide +kernel) (by decide +kernel)
theorem aw566 : (Cond.methodLink RX5 59 yX2_isOver) ∈ wsA := wsA_mem 566 (by decide +kernel) (by decide +kernel)
theorem aw567 : (Cond.methodLink RX5 63 yX2_passMinute) ∈ wsA := wsA_mem 567 (by decide +kernel) (by decide +kernel)
theorem aw568 : (Cond.methodLink RX5 75 yX1_waited) ∈ wsA := wsA_mem 568 (by decide +kernel) (by decide +kernel)
theorem aw573 : (Cond.constant RX6 148 1000000000) ∈ wsA := wsA_mem 573 (by decide +kernel) (by decide +kernel)
theorem aw574 : (Cond.methodLink RX6 149 yX5_playRounds) ∈ wsA := wsA_mem 574 (by decide +kernel) (by decide +kernel)
theorem aw575 : (Cond.instanceMethod yX5_playRounds) ∈ wsA := wsA_mem 575 (by decide +kernel) (by decide +kernel)
theorem aw576 : (Cond.selects RX5 yX5_playRounds yX5_playRounds) ∈ wsA := wsA_mem 576 (by decide +kernel) (by decide +kernel)
theorem aw577 : (Cond.code yX5_playRounds cX5_playRounds 5 (some .int)) ∈ wsA := wsA_mem 577 (by decide +kernel) (by decide +kernel)
theorem aw578 : (Cond.methodLink RX5 81 yX5_bestKind) ∈ wsA := wsA_mem 578 (by decide +kernel) (by decide +kernel)
theorem aw579 : (Cond.methodLink RX6 152 yX5_kindDigits) ∈ wsA := wsA_mem 579 (by decide +kernel) (by decide +kernel)
theorem aw580 : (Cond.instanceMethod yX5_kindDigits) ∈ wsA := wsA_mem 580 (by decide +kernel) (by decide +kernel)
theorem aw581 : (Cond.selects RX5 yX5_kindDigits yX5_kindDigits) ∈ wsA := wsA_mem 581 (by decide +kernel) (by decide +kernel)
theorem aw582 : (Cond.code yX5_kindDigits cX5_kindDigits 3 (some .int)) ∈ wsA := wsA_mem 582 (by decide +kernel) (by decide +kernel)
theorem aw583 : (Cond.methodLink RX6 155 yX5_costAnew) ∈ wsA := wsA_mem 583 (by decide +kernel) (by decide +kernel)
theorem aw584 : (Cond.methodLink RX6 158 yX5_lostByKinds) ∈ wsA := wsA_mem 584 (by decide +kernel) (by decide +kernel)
theorem aw585 : (Cond.instanceMethod yX5_lostByKinds) ∈ wsA := wsA_mem 585 (by decide +kernel) (by decide +kernel)
theorem aw586 : (Cond.selects RX5 yX5_lostByKinds yX5_lostByKinds) ∈ wsA := wsA_mem 586 (by decide +kernel) (by decide +kernel)
theorem aw587 : (Cond.code yX5_lostByKinds cX5_lostByKinds 5 (some .int)) ∈ wsA := wsA_mem 587 (by decide +kernel) (by decide +kernel)
theorem aw588 : (Cond.methodLink RX5 85 Lib.Math.min.name) ∈ wsA := wsA_mem 588 (by decide +kernel) (by decide +kernel)
theorem aw593 : (Cond.methodLink RX6 161 yX5_bestMark) ∈ wsA := wsA_mem 593 (by decide +kernel) (by decide +kernel)
theorem aw594 : (Cond.instanceMethod yX5_bestMark) ∈ wsA := wsA_mem 594 (by decide +kernel) (by decide +kernel)
theorem aw595 : (Cond.selects RX5 yX5_bestMark yX5_bestMark) ∈ wsA := wsA_mem 595 (by decide +kernel) (by decide +kernel)
theorem aw596 : (Cond.code yX5_bestMark cX5_bestMark 6 (some .int)) ∈ wsA := wsA_mem 596 (by decide +kernel) (by decide +kernel)
theorem aw601 : (Cond.methodLink RX6 165 yX5_savedBySecond) ∈ wsA := wsA_mem 601 (by decide +kernel) (by decide +kernel)
theorem aw602 : (Cond.instanceMethod yX5_savedBySecond) ∈ wsA := wsA_mem 602 (by decide +kernel) (by decide +kernel)
theorem aw603 : (Cond.selects RX5 yX5_savedBySecond yX5_savedBySecond) ∈ wsA := wsA_mem 603 (by decide +kernel) (by decide +kernel)
theorem aw604 : (Cond.code yX5_savedBySecond cX5_savedBySecond 2 (some .int)) ∈ wsA := wsA_mem 604 (by decide +kernel) (by decide +kernel)
theorem aw609 : (Cond.methodLink RX6 168 yX0_take) ∈ wsA := wsA_mem 609 (by decide +kernel) (by decide +kernel)
theorem aw610 : (Cond.instanceMethod yX0_take) ∈ wsA := wsA_mem 610 (by decide +kernel) (by decide +kernel)
theorem aw611 : (Cond.selects RX0 yX0_take yX0_take) ∈ wsA := wsA_mem 611 (by decide +kernel) (by decide +kernel)
theorem aw612 : (Cond.code yX0_take cX0_take 3 none) ∈ wsA := wsA_mem 612 (by decide +kernel) (by decide +kernel)
theorem aw613 : (Cond.methodLink RX0 38 yX0_insert) ∈ wsA := wsA_mem 613 (by decide +kernel) (by decide +kernel)
theorem aw614 : (Cond.instanceMethod yX0_insert) ∈ wsA := wsA_mem 614 (by decide +kernel) (by decide +kernel)
theorem aw615 : (Cond.selects RX0 yX0_insert yX0_insert) ∈ wsA := wsA_mem 615 (by decide +kernel) (by decide +kernel)
theorem aw616 : (Cond.code yX0_insert cX0_insert 4 none) ∈ wsA := wsA_mem 616 (by decide +kernel) (by decide +kernel)
theorem aw617 : (Cond.methodLink RX6 169 yX0_hours) ∈ wsA := wsA_mem 617 (by decide +kernel) (by decide +kernel)
theorem aw618 : (Cond.instanceMethod yX0_hours) ∈ wsA := wsA_mem 618 (by decide +kernel) (by decide +kernel)
theorem aw619 : (Cond.selects RX0 yX0_hours yX0_hours) ∈ wsA := wsA_mem 619 (by decide +kernel) (by decide +kernel)
theorem aw620 : (Cond.code yX0_hours cX0_hours 1 (some .int)) ∈ wsA := wsA_mem 620 (by decide +kernel) (by decide +kernel)
theorem aw621 : (Cond.methodLink RX0 42 Lib.Math.max.name) ∈ wsA := wsA_mem 621 (by decide +kernel) (by decide +kernel)
theorem aw626 : (Cond.methodLink RX6 172 yX2_someoneWantsTooMuch) ∈ wsA := wsA_mem 626 (by decide +kernel) (by decide +kernel)
theorem aw627 : (Cond.instanceMethod yX2_someoneWantsTooMuch) ∈ wsA := wsA_mem 627 (by decide +kernel) (by decide +kernel)
theorem aw628 : (Cond.selects RX2 yX2_someoneWantsTooMuch yX2_someoneWantsTooMuch) ∈ wsA := wsA_mem 628 (by decide +kernel) (by decide +kernel)
theorem aw629 : (Cond.code yX2_someoneWantsTooMuch cX2_someoneWantsTooMuch 2 (some .boolean)) ∈ wsA := wsA_mem 629 (by decide +kernel) (by decide +kernel)
theorem aw630 : (Cond.methodLink RX6 175 yX0_leastBoils) ∈ wsA := wsA_mem 630 (by decide +kernel) (by decide +kernel)
theorem aw631 : (Cond.instanceMethod yX0_leastBoils) ∈ wsA := wsA_mem 631 (by decide +kernel) (by decide +kernel)
theorem aw632 : (Cond.selects RX0 yX0_leastBoils yX0_leastBoils) ∈ wsA := wsA_mem 632 (by decide +kernel) (by decide +kernel)
theorem aw633 : (Cond.code yX0_leastBoils cX0_leastBoils 7 (some .int)) ∈ wsA := wsA_mem 633 (by decide +kernel) (by decide +kernel)
theorem aw634 : (Cond.constant RX0 50 2147483647) ∈ wsA := wsA_mem 634 (by decide +kernel) (by decide +kernel)
theorem aw635 : (Cond.methodLink RX0 54 yX0_boilsCost) ∈ wsA := wsA_mem 635 (by decide +kernel) (by decide +kernel)
theorem aw636 : (Cond.instanceMethod yX0_boilsCost) ∈ wsA := wsA_mem 636 (by decide +kernel) (by decide +kernel)
theorem aw637 : (Cond.selects RX0 yX0_boilsCost yX0_boilsCost) ∈ wsA := wsA_mem 637 (by decide +kernel) (by decide +kernel)
theorem aw638 : (Cond.code yX0_boilsCost cX0_boilsCost 8 (some .int)) ∈ wsA := wsA_mem 638 (by decide +kernel) (by decide +kernel)
theorem aw640 : (Cond.methodLink RX0 62 yX0_waitedTill) ∈ wsA := wsA_mem 640 (by decide +kernel) (by decide +kernel)
theorem aw641 : (Cond.instanceMethod yX0_waitedTill) ∈ wsA := wsA_mem 641 (by decide +kernel) (by decide +kernel)
theorem aw642 : (Cond.selects RX0 yX0_waitedTill yX0_waitedTill) ∈ wsA := wsA_mem 642 (by decide +kernel) (by decide +kernel)
theorem aw643 : (Cond.code yX0_waitedTill cX0_waitedTill 6 (some .int)) ∈ wsA := wsA_mem 643 (by decide +kernel) (by decide +kernel)
theorem aw648 : (Cond.methodLink RX6 179 yX0_waitedForSeats) ∈ wsA := wsA_mem 648 (by decide +kernel) (by decide +kernel)
theorem aw649 : (Cond.instanceMethod yX0_waitedForSeats) ∈ wsA := wsA_mem 649 (by decide +kernel) (by decide +kernel)
theorem aw650 : (Cond.selects RX0 yX0_waitedForSeats yX0_waitedForSeats) ∈ wsA := wsA_mem 650 (by decide +kernel) (by decide +kernel)
theorem aw651 : (Cond.code yX0_waitedForSeats cX0_waitedForSeats 6 (some .int)) ∈ wsA := wsA_mem 651 (by decide +kernel) (by decide +kernel)
theorem aw656 : (Cond.methodLink RX6 182 yX0_waitedForTimes) ∈ wsA := wsA_mem 656 (by decide +kernel) (by decide +kernel)
theorem aw657 : (Cond.instanceMethod yX0_waitedForTimes) ∈ wsA := wsA_mem 657 (by decide +kernel) (by decide +kernel)
theorem aw658 : (Cond.selects RX0 yX0_waitedForTimes yX0_waitedForTimes) ∈ wsA := wsA_mem 658 (by decide +kernel) (by decide +kernel)
theorem aw659 : (Cond.code yX0_waitedForTimes cX0_waitedForTimes 4 (some .int)) ∈ wsA := wsA_mem 659 (by decide +kernel) (by decide +kernel)
theorem aw660 : (Cond.methodLink RX0 65 yJ9_floorMod_7cf53) ∈ wsA := wsA_mem 660 (by decide +kernel) (by decide +kernel)
theorem aw661 : (Cond.static yJ9_floorMod_7cf53) ∈ wsA := wsA_mem 661 (by decide +kernel) (by decide +kernel)
theorem aw662 : (Cond.code yJ9_floorMod_7cf53 cJ9_floorMod_7cf53 3 (some .int)) ∈ wsA := wsA_mem 662 (by decide +kernel) (by decide +kernel)
theorem aw667 : (Cond.methodLink RX6 185 yX0_bestSeats) ∈ wsA := wsA_mem 667 (by decide +kernel) (by decide +kernel)
theorem aw668 : (Cond.instanceMethod yX0_bestSeats) ∈ wsA := wsA_mem 668 (by decide +kernel) (by decide +kernel)
theorem aw669 : (Cond.selects RX0 yX0_bestSeats yX0_bestSeats) ∈ wsA := wsA_mem 669 (by decide +kernel) (by decide +kernel)
theorem aw670 : (Cond.code yX0_bestSeats cX0_bestSeats 6 (some .int)) ∈ wsA := wsA_mem 670 (by decide +kernel) (by decide +kernel)
theorem aw671 : (Cond.methodLink RX0 68 yX0_waitedForTimes) ∈ wsA := wsA_mem 671 (by decide +kernel) (by decide +kernel)
theorem aw672 : (Cond.methodLink RX0 72 yX0_waitedForSeats) ∈ wsA := wsA_mem 672 (by decide +kernel) (by decide +kernel)
theorem aw677 : (Cond.methodLink RX6 188 yX5_comerToFollow) ∈ wsA := wsA_mem 677 (by decide +kernel) (by decide +kernel)
theorem aw678 : (Cond.instanceMethod yX5_comerToFollow) ∈ wsA := wsA_mem 678 (by decide +kernel) (by decide +kernel)
theorem aw679 : (Cond.selects RX5 yX5_comerToFollow yX5_comerToFollow) ∈ wsA := wsA_mem 679 (by decide +kernel) (by decide +kernel)
theorem aw680 : (Cond.code yX5_comerToFollow cX5_comerToFollow 7 (some .int)) ∈ wsA := wsA_mem 680 (by decide +kernel) (by decide +kernel)
theorem aw681 : (Cond.methodLink RX5 98 yX1_become) ∈ wsA := wsA_mem 681 (by decide +kernel) (by decide +kernel)
theorem aw690 : (Cond.methodLink RX6 194 yX5_firstOtherLevel) ∈ wsA := wsA_mem 690 (by decide +kernel) (by decide +kernel)
theorem aw691 : (Cond.instanceMethod yX5_firstOtherLevel) ∈ wsA := wsA_mem 691 (by decide +kernel) (by decide +kernel)
theorem aw692 : (Cond.selects RX5 yX5_firstOtherLevel yX5_firstOtherLevel) ∈ wsA := wsA_mem 692 (by decide +kernel) (by decide +kernel)
theorem aw693 : (Cond.code yX5_firstOtherLevel cX5_firstOtherLevel 4 (some .int)) ∈ wsA := wsA_mem 693 (by decide +kernel) (by decide +kernel)
theorem aw698 : (Cond.methodLink RX6 198 yX2_kindsThatFill) ∈ wsA := wsA_mem 698 (by decide +kernel) (by decide +kernel)
theorem aw699 : (Cond.instanceMethod yX2_kindsThatFill) ∈ wsA := wsA_mem 699 (by decide +kernel) (by decide +kernel)
theorem aw700 : (Cond.selects RX2 yX2_kindsThatFill yX2_kindsThatFill) ∈ wsA := wsA_mem 700 (by decide +kernel) (by decide +kernel)
theorem aw701 : (Cond.code yX2_kindsThatFill cX2_kindsThatFill 4 (some .int)) ∈ wsA := wsA_mem 701 (by decide +kernel) (by decide +kernel)
theorem aw706 : (Cond.methodLink RX6 201 yX5_drawnDays) ∈ wsA := wsA_mem 706 (by decide +kernel) (by decide +kernel)
theorem aw707 : (Cond.instanceMethod yX5_drawnDays) ∈ wsA := wsA_mem 707 (by decide +kernel) (by decide +kernel)
theorem aw708 : (Cond.selects RX5 yX5_drawnDays yX5_drawnDays) ∈ wsA := wsA_mem 708 (by decide +kernel) (by decide +kernel)
theorem aw709 : (Cond.code yX5_drawnDays cX5_drawnDays 8 (some .int)) ∈ wsA := wsA_mem 709 (by decide +kernel) (by decide +kernel)
theorem aw710 : (Cond.methodLink RX5 114 yX5_draw) ∈ wsA := wsA_mem 710 (by decide +kernel) (by decide +kernel)
theorem aw711 : (Cond.instanceMethod yX5_draw) ∈ wsA := wsA_mem 711 (by decide +kernel) (by decide +kernel)
theorem aw712 : (Cond.selects RX5 yX5_draw yX5_draw) ∈ wsA := wsA_mem 712 (by decide +kernel) (by decide +kernel)
theorem aw713 : (Cond.code yX5_draw cX5_draw 2 (some .int)) ∈ wsA := wsA_mem 713 (by decide +kernel) (by decide +kernel)
theorem aw714 : (Cond.constant RX5 120 1103515245) ∈ wsA := wsA_mem 714 (by decide +kernel) (by decide +kernel)
theorem aw715 : (Cond.constant RX5 121 65536) ∈ wsA := wsA_mem 715 (by decide +kernel) (by decide +kernel)
theorem aw728 : (Cond.methodLink RX6 215 yX2_comersWith) ∈ wsA := wsA_mem 728 (by decide +kernel) (by decide +kernel)
theorem aw729 : (Cond.methodLink RX6 218 yX2_allWaited) ∈ wsA := wsA_mem 729 (by decide +kernel) (by decide +kernel)
theorem aw736 : (Cond.fieldLink RX7 7 "FilledForOneModel" "refused" "[I") ∈ wsA := wsA_mem 736 (by decide +kernel) (by decide +kernel)
theorem aw737 : (Cond.fieldLink RX7 13 "FilledForOneModel" "setting" "[I") ∈ wsA := wsA_mem 737 (by decide +kernel) (by decide +kernel)
theorem aw738 : (Cond.fieldLink RX7 16 "FilledForOneModel" "kind" "[I") ∈ wsA := wsA_mem 738 (by decide +kernel) (by decide +kernel)
theorem aw739 : (Cond.fieldLink RX7 19 "FilledForOneModel" "figure" "[I") ∈ wsA := wsA_mem 739 (by decide +kernel) (by decide +kernel)
theorem aw740 : (Cond.fieldLink RX7 22 "FilledForOneModel" "comes" "[I") ∈ wsA := wsA_mem 740 (by decide +kernel) (by decide +kernel)
theorem aw741 : (Cond.fieldLink RX7 25 "FilledForOneModel" "wants" "[I") ∈ wsA := wsA_mem 741 (by decide +kernel) (by decide +kernel)
theorem aw742 : (Cond.fieldLink RX7 28 "FilledForOneModel" "patience" "[I") ∈ wsA := wsA_mem 742 (by decide +kernel) (by decide +kernel)
theorem aw743 : (Cond.fieldLink RX7 31 "FilledForOneModel" "state" "[I") ∈ wsA := wsA_mem 743 (by decide +kernel) (by decide +kernel)
theorem aw744 : (Cond.fieldLink RX7 34 "FilledForOneModel" "waited" "[I") ∈ wsA := wsA_mem 744 (by decide +kernel) (by decide +kernel)
theorem aw745 : (Cond.fieldLink RX7 37 "FilledForOneModel" "line" "[I") ∈ wsA := wsA_mem 745 (by decide +kernel) (by decide +kernel)
theorem aw746 : (Cond.fieldLink RX7 40 "FilledForOneModel" "level" "[I") ∈ wsA := wsA_mem 746 (by decide +kernel) (by decide +kernel)
theorem aw747 : (Cond.fieldLink RX7 43 "FilledForOneModel" "warmth" "[I") ∈ wsA := wsA_mem 747 (by decide +kernel) (by decide +kernel)
theorem aw748 : (Cond.fieldLink RX7 46 "FilledForOneModel" "age" "[I") ∈ wsA := wsA_mem 748 (by decide +kernel) (by decide +kernel)
theorem aw749 : (Cond.fieldLink RX7 49 "FilledForOneModel" "busyTill" "[I") ∈ wsA := wsA_mem 749 (by decide +kernel) (by decide +kernel)
theorem aw750 : (Cond.fieldLink RX7 52 "FilledForOneModel" "putBy" "[I") ∈ wsA := wsA_mem 750 (by decide +kernel) (by decide +kernel)
theorem aw751 : (Cond.fieldLink RX7 77 "FilledForOneModel" "comers" "I") ∈ wsA := wsA_mem 751 (by decide +kernel) (by decide +kernel)
theorem aw752 : (Cond.fieldLink RX7 122 "FilledForOneModel" "minute" "I") ∈ wsA := wsA_mem 752 (by decide +kernel) (by decide +kernel)
theorem aw753 : (Cond.fieldLink RX7 160 "FilledForOneModel" "lineMany" "I") ∈ wsA := wsA_mem 753 (by decide +kernel) (by decide +kernel)
theorem aw754 : (Cond.fieldLink RX7 181 "FilledForOneModel" "putOn" "I") ∈ wsA := wsA_mem 754 (by decide +kernel) (by decide +kernel)
theorem aw755 : (Cond.fieldLink RX7 55 "FilledForOneModel" "tape" "[I") ∈ wsA := wsA_mem 755 (by decide +kernel) (by decide +kernel)
theorem aw756 : (Cond.fieldLink RX7 58 "FilledForOneModel" "letter" "[I") ∈ wsA := wsA_mem 756 (by decide +kernel) (by decide +kernel)
theorem aw757 : (Cond.fieldLink RX7 61 "FilledForOneModel" "letterAt" "[I") ∈ wsA := wsA_mem 757 (by decide +kernel) (by decide +kernel)
theorem aw758 : (Cond.fieldLink RX7 64 "FilledForOneModel" "told" "[I") ∈ wsA := wsA_mem 758 (by decide +kernel) (by decide +kernel)
theorem aw759 : (Cond.fieldLink RX7 85 "FilledForOneModel" "taped" "I") ∈ wsA := wsA_mem 759 (by decide +kernel) (by decide +kernel)
theorem aw760 : (Cond.fieldLink RX7 92 "FilledForOneModel" "at" "I") ∈ wsA := wsA_mem 760 (by decide +kernel) (by decide +kernel)
theorem aw761 : (Cond.fieldLink RX7 106 "FilledForOneModel" "statements" "I") ∈ wsA := wsA_mem 761 (by decide +kernel) (by decide +kernel)
theorem aw762 : (Cond.fieldLink RX7 67 "FilledForOneModel" "kept" "[I") ∈ wsA := wsA_mem 762 (by decide +kernel) (by decide +kernel)
theorem aw763 : (Cond.fieldLink RX7 163 "FilledForOneModel" "hasImage" "Z") ∈ wsA := wsA_mem 763 (by decide +kernel) (by decide +kernel)
theorem aw764 : (Cond.fieldLink RX7 146 "FilledForOneModel" "isKeeping" "Z") ∈ wsA := wsA_mem 764 (by decide +kernel) (by decide +kernel)
theorem aw765 : (Cond.fieldLink RX7 150 "FilledForOneModel" "cursor" "I") ∈ wsA := wsA_mem 765 (by decide +kernel) (by decide +kernel)
theorem aw766 : (Cond.fieldLink RX7 70 "FilledForOneModel" "byMinute" "[I") ∈ wsA := wsA_mem 766 (by decide +kernel) (by decide +kernel)
theorem aw767 : (Cond.fieldLink RX7 73 "FilledForOneModel" "row" "[I") ∈ wsA := wsA_mem 767 (by decide +kernel) (by decide +kernel)
theorem aw768 : (Cond.fieldLink RX7 261 "FilledForOneModel" "rowMany" "I") ∈ wsA := wsA_mem 768 (by decide +kernel) (by decide +kernel)
theorem aw840 : (Cond.methodLink RX7 81 yX7_bound) ∈ wsA := wsA_mem 840 (by decide +kernel) (by decide +kernel)
theorem aw841 : (Cond.static yX7_bound) ∈ wsA := wsA_mem 841 (by decide +kernel) (by decide +kernel)
theorem aw842 : (Cond.code yX7_bound cX7_bound 3 (some .int)) ∈ wsA := wsA_mem 842 (by decide +kernel) (by decide +kernel)
theorem aw843 : (Cond.methodLink RX7 88 yX7_no) ∈ wsA := wsA_mem 843 (by decide +kernel) (by decide +kernel)
theorem aw845 : (Cond.instanceMethod yX7_no) ∈ wsA := wsA_mem 845 (by decide +kernel) (by decide +kernel)
theorem aw846 : (Cond.code yX7_no cX7_no 2 (some .int)) ∈ wsA := wsA_mem 846 (by decide +kernel) (by decide +kernel)
theorem aw851 : (Cond.methodLink RX7 135 yX7_statement) ∈ wsA := wsA_mem 851 (by decide +kernel) (by decide +kernel)
theorem aw853 : (Cond.instanceMethod yX7_statement) ∈ wsA := wsA_mem 853 (by decide +kernel) (by decide +kernel)
theorem aw854 : (Cond.code yX7_statement cX7_statement 4 (some .boolean)) ∈ wsA := wsA_mem 854 (by decide +kernel) (by decide +kernel)
theorem aw855 : (Cond.methodLink RX7 95 yX7_next) ∈ wsA := wsA_mem 855 (by decide +kernel) (by decide +kernel)
theorem aw857 : (Cond.instanceMethod yX7_next) ∈ wsA := wsA_mem 857 (by decide +kernel) (by decide +kernel)
theorem aw858 : (Cond.code yX7_next cX7_next 1 (some .int)) ∈ wsA := wsA_mem 858 (by decide +kernel) (by decide +kernel)
theorem aw859 : (Cond.methodLink RX7 109 yX7_readsSetting) ∈ wsA := wsA_mem 859 (by decide +kernel) (by decide +kernel)
theorem aw861 : (Cond.instanceMethod yX7_readsSetting) ∈ wsA := wsA_mem 861 (by decide +kernel) (by decide +kernel)
theorem aw862 : (Cond.code yX7_readsSetting cX7_readsSetting 2 (some .boolean)) ∈ wsA := wsA_mem 862 (by decide +kernel) (by decide +kernel)
theorem aw863 : (Cond.methodLink RX7 103 yX7_readsNumber) ∈ wsA := wsA_mem 863 (by decide +kernel) (by decide +kernel)
theorem aw865 : (Cond.instanceMethod yX7_readsNumber) ∈ wsA := wsA_mem 865 (by decide +kernel) (by decide +kernel)
theorem aw866 : (Cond.code yX7_readsNumber cX7_readsNumber 6 (some .boolean)) ∈ wsA := wsA_mem 866 (by decide +kernel) (by decide +kernel)
theorem aw867 : (Cond.methodLink RX7 99 yX7_isIn) ∈ wsA := wsA_mem 867 (by decide +kernel) (by decide +kernel)
theorem aw868 : (Cond.static yX7_isIn) ∈ wsA := wsA_mem 868 (by decide +kernel) (by decide +kernel)
theorem aw869 : (Cond.code yX7_isIn cX7_isIn 3 (some .boolean)) ∈ wsA := wsA_mem 869 (by decide +kernel) (by decide +kernel)
theorem aw870 : (Cond.methodLink RX7 113 yX7_readsComer) ∈ wsA := wsA_mem 870 (by decide +kernel) (by decide +kernel)
theorem aw872 : (Cond.instanceMethod yX7_readsComer) ∈ wsA := wsA_mem 872 (by decide +kernel) (by decide +kernel)
theorem aw873 : (Cond.code yX7_readsComer cX7_readsComer 2 (some .boolean)) ∈ wsA := wsA_mem 873 (by decide +kernel) (by decide +kernel)
theorem aw874 : (Cond.methodLink RX7 139 yX7_passesAll) ∈ wsA := wsA_mem 874 (by decide +kernel) (by decide +kernel)
theorem aw876 : (Cond.instanceMethod yX7_passesAll) ∈ wsA := wsA_mem 876 (by decide +kernel) (by decide +kernel)
theorem aw877 : (Cond.code yX7_passesAll cX7_passesAll 3 none) ∈ wsA := wsA_mem 877 (by decide +kernel) (by decide +kernel)
theorem aw878 : (Cond.methodLink RX7 153 yX7_passes) ∈ wsA := wsA_mem 878 (by decide +kernel) (by decide +kernel)
theorem aw880 : (Cond.instanceMethod yX7_passes) ∈ wsA := wsA_mem 880 (by decide +kernel) (by decide +kernel)
theorem aw881 : (Cond.code yX7_passes cX7_passes 3 none) ∈ wsA := wsA_mem 881 (by decide +kernel) (by decide +kernel)
theorem aw882 : (Cond.methodLink RX7 157 yX7_passOne) ∈ wsA := wsA_mem 882 (by decide +kernel) (by decide +kernel)
theorem aw884 : (Cond.instanceMethod yX7_passOne) ∈ wsA := wsA_mem 884 (by decide +kernel) (by decide +kernel)
theorem aw885 : (Cond.code yX7_passOne cX7_passOne 3 (some .int)) ∈ wsA := wsA_mem 885 (by decide +kernel) (by decide +kernel)
theorem aw886 : (Cond.methodLink RX7 143 yX7_comesAs) ∈ wsA := wsA_mem 886 (by decide +kernel) (by decide +kernel)
theorem aw888 : (Cond.instanceMethod yX7_comesAs) ∈ wsA := wsA_mem 888 (by decide +kernel) (by decide +kernel)
theorem aw889 : (Cond.code yX7_comesAs cX7_comesAs 3 (some .boolean)) ∈ wsA := wsA_mem 889 (by decide +kernel) (by decide +kernel)
theorem aw890 : (Cond.methodLink RX7 125 yX7_notSet) ∈ wsA := wsA_mem 890 (by decide +kernel) (by decide +kernel)
theorem aw892 : (Cond.instanceMethod yX7_notSet) ∈ wsA := wsA_mem 892 (by decide +kernel) (by decide +kernel)
theorem aw893 : (Cond.code yX7_notSet cX7_notSet 5 (some .int)) ∈ wsA := wsA_mem 893 (by decide +kernel) (by decide +kernel)
theorem aw894 : (Cond.methodLink RX7 116 yX7_leastOf) ∈ wsA := wsA_mem 894 (by decide +kernel) (by decide +kernel)
theorem aw895 : (Cond.static yX7_leastOf) ∈ wsA := wsA_mem 895 (by decide +kernel) (by decide +kernel)
theorem aw896 : (Cond.code yX7_leastOf cX7_leastOf 1 (some .int)) ∈ wsA := wsA_mem 896 (by decide +kernel) (by decide +kernel)
theorem aw897 : (Cond.methodLink RX7 119 yX7_mostOf) ∈ wsA := wsA_mem 897 (by decide +kernel) (by decide +kernel)
theorem aw898 : (Cond.static yX7_mostOf) ∈ wsA := wsA_mem 898 (by decide +kernel) (by decide +kernel)
theorem aw899 : (Cond.code yX7_mostOf cX7_mostOf 1 (some .int)) ∈ wsA := wsA_mem 899 (by decide +kernel) (by decide +kernel)
theorem aw900 : (Cond.methodLink RX7 129 yX7_comesOne) ∈ wsA := wsA_mem 900 (by decide +kernel) (by decide +kernel)
theorem aw902 : (Cond.instanceMethod yX7_comesOne) ∈ wsA := wsA_mem 902 (by decide +kernel) (by decide +kernel)
theorem aw903 : (Cond.code yX7_comesOne cX7_comesOne 2 (some .boolean)) ∈ wsA := wsA_mem 903 (by decide +kernel) (by decide +kernel)
theorem aw904 : (Cond.methodLink RX7 132 yX7_isComer) ∈ wsA := wsA_mem 904 (by decide +kernel) (by decide +kernel)
theorem aw906 : (Cond.instanceMethod yX7_isComer) ∈ wsA := wsA_mem 906 (by decide +kernel) (by decide +kernel)
theorem aw907 : (Cond.code yX7_isComer cX7_isComer 2 (some .boolean)) ∈ wsA := wsA_mem 907 (by decide +kernel) (by decide +kernel)
theorem aw920 : (Cond.methodLink RX7 175 yX7_upTo) ∈ wsA := wsA_mem 920 (by decide +kernel) (by decide +kernel)
theorem aw922 : (Cond.instanceMethod yX7_upTo) ∈ wsA := wsA_mem 922 (by decide +kernel) (by decide +kernel)
theorem aw923 : (Cond.code yX7_upTo cX7_upTo 4 (some .int)) ∈ wsA := wsA_mem 923 (by decide +kernel) (by decide +kernel)
theorem aw924 : (Cond.methodLink RX7 172 yX7_cupsBy) ∈ wsA := wsA_mem 924 (by decide +kernel) (by decide +kernel)
theorem aw926 : (Cond.instanceMethod yX7_cupsBy) ∈ wsA := wsA_mem 926 (by decide +kernel) (by decide +kernel)
theorem aw927 : (Cond.code yX7_cupsBy cX7_cupsBy 3 (some .int)) ∈ wsA := wsA_mem 927 (by decide +kernel) (by decide +kernel)
theorem aw928 : (Cond.methodLink RX7 166 yX7_wantsInLine) ∈ wsA := wsA_mem 928 (by decide +kernel) (by decide +kernel)
theorem aw930 : (Cond.instanceMethod yX7_wantsInLine) ∈ wsA := wsA_mem 930 (by decide +kernel) (by decide +kernel)
theorem aw931 : (Cond.code yX7_wantsInLine cX7_wantsInLine 3 (some .int)) ∈ wsA := wsA_mem 931 (by decide +kernel) (by decide +kernel)
theorem aw932 : (Cond.methodLink RX7 169 yX7_wantsSoon) ∈ wsA := wsA_mem 932 (by decide +kernel) (by decide +kernel)
theorem aw934 : (Cond.instanceMethod yX7_wantsSoon) ∈ wsA := wsA_mem 934 (by decide +kernel) (by decide +kernel)
theorem aw935 : (Cond.code yX7_wantsSoon cX7_wantsSoon 4 (some .int)) ∈ wsA := wsA_mem 935 (by decide +kernel) (by decide +kernel)
theorem aw944 : (Cond.methodLink RX7 184 yX7_isFree) ∈ wsA := wsA_mem 944 (by decide +kernel) (by decide +kernel)
theorem aw946 : (Cond.instanceMethod yX7_isFree) ∈ wsA := wsA_mem 946 (by decide +kernel) (by decide +kernel)
theorem aw947 : (Cond.code yX7_isFree cX7_isFree 2 (some .boolean)) ∈ wsA := wsA_mem 947 (by decide +kernel) (by decide +kernel)
theorem aw956 : (Cond.methodLink RX7 207 yX7_isOver) ∈ wsA := wsA_mem 956 (by decide +kernel) (by decide +kernel)
theorem aw958 : (Cond.instanceMethod yX7_isOver) ∈ wsA := wsA_mem 958 (by decide +kernel) (by decide +kernel)
theorem aw959 : (Cond.code yX7_isOver cX7_isOver 2 (some .boolean)) ∈ wsA := wsA_mem 959 (by decide +kernel) (by decide +kernel)
theorem aw960 : (Cond.methodLink RX7 210 yX7_goesMinute) ∈ wsA := wsA_mem 960 (by decide +kernel) (by decide +kernel)
theorem aw962 : (Cond.instanceMethod yX7_goesMinute) ∈ wsA := wsA_mem 962 (by decide +kernel) (by decide +kernel)
theorem aw963 : (Cond.code yX7_goesMinute cX7_goesMinute 3 none) ∈ wsA := wsA_mem 963 (by decide +kernel) (by decide +kernel)
theorem aw964 : (Cond.methodLink RX7 197 yX7_leaves) ∈ wsA := wsA_mem 964 (by decide +kernel) (by decide +kernel)
theorem aw966 : (Cond.instanceMethod yX7_leaves) ∈ wsA := wsA_mem 966 (by decide +kernel) (by decide +kernel)
theorem aw967 : (Cond.code yX7_leaves cX7_leaves 3 none) ∈ wsA := wsA_mem 967 (by decide +kernel) (by decide +kernel)
theorem aw968 : (Cond.methodLink RX7 201 yX7_isServed) ∈ wsA := wsA_mem 968 (by decide +kernel) (by decide +kernel)
theorem aw970 : (Cond.instanceMethod yX7_isServed) ∈ wsA := wsA_mem 970 (by decide +kernel) (by decide +kernel)
theorem aw971 : (Cond.code yX7_isServed cX7_isServed 3 (some .boolean)) ∈ wsA := wsA_mem 971 (by decide +kernel) (by decide +kernel)
theorem aw972 : (Cond.methodLink RX7 187 yX7_hotFor) ∈ wsA := wsA_mem 972 (by decide +kernel) (by decide +kernel)
theorem aw974 : (Cond.instanceMethod yX7_hotFor) ∈ wsA := wsA_mem 974 (by decide +kernel) (by decide +kernel)
theorem aw975 : (Cond.code yX7_hotFor cX7_hotFor 3 (some .int)) ∈ wsA := wsA_mem 975 (by decide +kernel) (by decide +kernel)
theorem aw976 : (Cond.methodLink RX7 190 yX7_freeFor) ∈ wsA := wsA_mem 976 (by decide +kernel) (by decide +kernel)
theorem aw978 : (Cond.instanceMethod yX7_freeFor) ∈ wsA := wsA_mem 978 (by decide +kernel) (by decide +kernel)
theorem aw979 : (Cond.code yX7_freeFor cX7_freeFor 4 (some .int)) ∈ wsA := wsA_mem 979 (by decide +kernel) (by decide +kernel)
theorem aw980 : (Cond.methodLink RX7 193 yX7_putsOn) ∈ wsA := wsA_mem 980 (by decide +kernel) (by decide +kernel)
theorem aw982 : (Cond.instanceMethod yX7_putsOn) ∈ wsA := wsA_mem 982 (by decide +kernel) (by decide +kernel)
theorem aw983 : (Cond.code yX7_putsOn cX7_putsOn 5 none) ∈ wsA := wsA_mem 983 (by decide +kernel) (by decide +kernel)
theorem aw984 : (Cond.methodLink RX7 178 yX7_boilTime) ∈ wsA := wsA_mem 984 (by decide +kernel) (by decide +kernel)
theorem aw986 : (Cond.instanceMethod yX7_boilTime) ∈ wsA := wsA_mem 986 (by decide +kernel) (by decide +kernel)
theorem aw987 : (Cond.code yX7_boilTime cX7_boilTime 4 (some .int)) ∈ wsA := wsA_mem 987 (by decide +kernel) (by decide +kernel)
theorem aw988 : (Cond.methodLink RX7 204 yX7_cools) ∈ wsA := wsA_mem 988 (by decide +kernel) (by decide +kernel)
theorem aw990 : (Cond.instanceMethod yX7_cools) ∈ wsA := wsA_mem 990 (by decide +kernel) (by decide +kernel)
theorem aw991 : (Cond.code yX7_cools cX7_cools 2 none) ∈ wsA := wsA_mem 991 (by decide +kernel) (by decide +kernel)
theorem aw996 : (Cond.methodLink RX7 219 yX7_begins) ∈ wsA := wsA_mem 996 (by decide +kernel) (by decide +kernel)
theorem aw998 : (Cond.instanceMethod yX7_begins) ∈ wsA := wsA_mem 998 (by decide +kernel) (by decide +kernel)
theorem aw999 : (Cond.code yX7_begins cX7_begins 2 none) ∈ wsA := wsA_mem 999 (by decide +kernel) (by decide +kernel)
theorem aw1008 : (Cond.methodLink RX7 222 yX7_goesToEnd) ∈ wsA := wsA_mem 1008 (by decide +kernel) (by decide +kernel)
theorem aw1010 : (Cond.instanceMethod yX7_goesToEnd) ∈ wsA := wsA_mem 1010 (by decide +kernel) (by decide +kernel)
theorem aw1011 : (Cond.code yX7_goesToEnd cX7_goesToEnd 1 none) ∈ wsA := wsA_mem 1011 (by decide +kernel) (by decide +kernel)
theorem aw1012 : (Cond.methodLink RX7 213 yX7_waitedAll) ∈ wsA := wsA_mem 1012 (by decide +kernel) (by decide +kernel)
theorem aw1014 : (Cond.instanceMethod yX7_waitedAll) ∈ wsA := wsA_mem 1014 (by decide +kernel) (by decide +kernel)
theorem aw1015 : (Cond.code yX7_waitedAll cX7_waitedAll 3 (some .int)) ∈ wsA := wsA_mem 1015 (by decide +kernel) (by decide +kernel)
theorem aw1016 : (Cond.methodLink RX7 216 yX7_stateMany) ∈ wsA := wsA_mem 1016 (by decide +kernel) (by decide +kernel)
theorem aw1018 : (Cond.instanceMethod yX7_stateMany) ∈ wsA := wsA_mem 1018 (by decide +kernel) (by decide +kernel)
theorem aw1019 : (Cond.code yX7_stateMany cX7_stateMany 4 (some .int)) ∈ wsA := wsA_mem 1019 (by decide +kernel) (by decide +kernel)
theorem aw1020 : (Cond.methodLink RX7 225 yX7_costNow) ∈ wsA := wsA_mem 1020 (by decide +kernel) (by decide +kernel)
theorem aw1022 : (Cond.instanceMethod yX7_costNow) ∈ wsA := wsA_mem 1022 (by decide +kernel) (by decide +kernel)
theorem aw1023 : (Cond.code yX7_costNow cX7_costNow 1 (some .int)) ∈ wsA := wsA_mem 1023 (by decide +kernel) (by decide +kernel)
theorem aw1032 : (Cond.methodLink RX7 231 yX7_bestKind) ∈ wsA := wsA_mem 1032 (by decide +kernel) (by decide +kernel)
theorem aw1034 : (Cond.instanceMethod yX7_bestKind) ∈ wsA := wsA_mem 1034 (by decide +kernel) (by decide +kernel)
theorem aw1035 : (Cond.code yX7_bestKind cX7_bestKind 8 (some .int)) ∈ wsA := wsA_mem 1035 (by decide +kernel) (by decide +kernel)
theorem aw1036 : (Cond.constant RX7 76 1000000000) ∈ wsA := wsA_mem 1036 (by decide +kernel) (by decide +kernel)
theorem aw1037 : (Cond.methodLink RX7 228 yX7_costAnew) ∈ wsA := wsA_mem 1037 (by decide +kernel) (by decide +kernel)
theorem aw1039 : (Cond.instanceMethod yX7_costAnew) ∈ wsA := wsA_mem 1039 (by decide +kernel) (by decide +kernel)
theorem aw1040 : (Cond.code yX7_costAnew cX7_costAnew 1 (some .int)) ∈ wsA := wsA_mem 1040 (by decide +kernel) (by decide +kernel)
theorem aw1045 : (Cond.methodLink RX7 234 yX7_lower) ∈ wsA := wsA_mem 1045 (by decide +kernel) (by decide +kernel)
theorem aw1047 : (Cond.instanceMethod yX7_lower) ∈ wsA := wsA_mem 1047 (by decide +kernel) (by decide +kernel)
theorem aw1048 : (Cond.code yX7_lower cX7_lower 2 (some .int)) ∈ wsA := wsA_mem 1048 (by decide +kernel) (by decide +kernel)
theorem aw1049 : (Cond.methodLink RX7 237 yX7_goesRounds) ∈ wsA := wsA_mem 1049 (by decide +kernel) (by decide +kernel)
theorem aw1051 : (Cond.instanceMethod yX7_goesRounds) ∈ wsA := wsA_mem 1051 (by decide +kernel) (by decide +kernel)
theorem aw1052 : (Cond.code yX7_goesRounds cX7_goesRounds 5 (some .int)) ∈ wsA := wsA_mem 1052 (by decide +kernel) (by decide +kernel)
theorem aw1053 : (Cond.methodLink RX7 240 yX7_kindsDigits) ∈ wsA := wsA_mem 1053 (by decide +kernel) (by decide +kernel)
theorem aw1055 : (Cond.instanceMethod yX7_kindsDigits) ∈ wsA := wsA_mem 1055 (by decide +kernel) (by decide +kernel)
theorem aw1056 : (Cond.code yX7_kindsDigits cX7_kindsDigits 3 (some .int)) ∈ wsA := wsA_mem 1056 (by decide +kernel) (by decide +kernel)
theorem aw1057 : (Cond.methodLink RX7 243 yX7_leastOfOneKind) ∈ wsA := wsA_mem 1057 (by decide +kernel) (by decide +kernel)
theorem aw1059 : (Cond.instanceMethod yX7_leastOfOneKind) ∈ wsA := wsA_mem 1059 (by decide +kernel) (by decide +kernel)
theorem aw1060 : (Cond.code yX7_leastOfOneKind cX7_leastOfOneKind 4 (some .int)) ∈ wsA := wsA_mem 1060 (by decide +kernel) (by decide +kernel)
theorem aw1073 : (Cond.methodLink RX7 246 yX7_hours) ∈ wsA := wsA_mem 1073 (by decide +kernel) (by decide +kernel)
theorem aw1075 : (Cond.instanceMethod yX7_hours) ∈ wsA := wsA_mem 1075 (by decide +kernel) (by decide +kernel)
theorem aw1076 : (Cond.code yX7_hours cX7_hours 4 (some .int)) ∈ wsA := wsA_mem 1076 (by decide +kernel) (by decide +kernel)
theorem aw1081 : (Cond.methodLink RX7 249 yX7_sorts) ∈ wsA := wsA_mem 1081 (by decide +kernel) (by decide +kernel)
theorem aw1083 : (Cond.instanceMethod yX7_sorts) ∈ wsA := wsA_mem 1083 (by decide +kernel) (by decide +kernel)
theorem aw1084 : (Cond.code yX7_sorts cX7_sorts 3 none) ∈ wsA := wsA_mem 1084 (by decide +kernel) (by decide +kernel)
theorem aw1085 : (Cond.methodLink RX7 252 yX7_costOfRows) ∈ wsA := wsA_mem 1085 (by decide +kernel) (by decide +kernel)
theorem aw1087 : (Cond.instanceMethod yX7_costOfRows) ∈ wsA := wsA_mem 1087 (by decide +kernel) (by decide +kernel)
theorem aw1088 : (Cond.code yX7_costOfRows cX7_costOfRows 9 (some .int)) ∈ wsA := wsA_mem 1088 (by decide +kernel) (by decide +kernel)
theorem aw1093 : (Cond.methodLink RX7 255 yX7_ferryBy) ∈ wsA := wsA_mem 1093 (by decide +kernel) (by decide +kernel)
theorem aw1095 : (Cond.instanceMethod yX7_ferryBy) ∈ wsA := wsA_mem 1095 (by decide +kernel) (by decide +kernel)
theorem aw1096 : (Cond.code yX7_ferryBy cX7_ferryBy 7 (some .int)) ∈ wsA := wsA_mem 1096 (by decide +kernel) (by decide +kernel)
theorem aw1101 : (Cond.methodLink RX7 258 yX7_timesBy) ∈ wsA := wsA_mem 1101 (by decide +kernel) (by decide +kernel)
theorem aw1103 : (Cond.instanceMethod yX7_timesBy) ∈ wsA := wsA_mem 1103 (by decide +kernel) (by decide +kernel)
theorem aw1104 : (Cond.code yX7_timesBy cX7_timesBy 4 (some .int)) ∈ wsA := wsA_mem 1104 (by decide +kernel) (by decide +kernel)
theorem aw1129 : (Cond.constant RX7 264 1103515245) ∈ wsA := wsA_mem 1129 (by decide +kernel) (by decide +kernel)
theorem aw1130 : (Cond.constant RX7 265 2147483647) ∈ wsA := wsA_mem 1130 (by decide +kernel) (by decide +kernel)
theorem aw1131 : (Cond.constant RX7 266 65536) ∈ wsA := wsA_mem 1131 (by decide +kernel) (by decide +kernel)
def wsX0_init : List Cond := .code yX0_init cX0_init 1 none :: wsA
def wsX0_take : List Cond := .code yX0_take cX0_take 3 none :: wsA
def wsX0_insert : List Cond := .code yX0_insert cX0_insert 4 none :: wsA
def wsX0_hours : List Cond := .code yX0_hours cX0_hours 1 (some .int) :: wsA
def wsX0_leastBoils : List Cond := .code yX0_leastBoils cX0_leastBoils 7 (some .int) :: wsA
def wsX0_boilsCost : List Cond := .code yX0_boilsCost cX0_boilsCost 8 (some .int) :: wsA
def wsX0_waitedTill : List Cond := .code yX0_waitedTill cX0_waitedTill 6 (some .int) :: wsA
def wsX0_waitedForSeats : List Cond := .code yX0_waitedForSeats cX0_waitedForSeats 6 (some .int) :: wsA
def wsX0_waitedForTimes : List Cond := .code yX0_waitedForTimes cX0_waitedForTimes 4 (some .int) :: wsA
def wsX0_bestSeats : List Cond := .code yX0_bestSeats cX0_bestSeats 6 (some .int) :: wsA
def wsX1_init : List Cond := .code yX1_init cX1_init 1 none :: wsA
def wsX1_copy : List Cond := .code yX1_copy cX1_copy 2 none :: wsA
def wsX1_become : List Cond := .code yX1_become cX1_become 3 none :: wsA
def wsX1_waited : List Cond := .code yX1_waited cX1_waited 1 (some .int) :: wsA
def wsX1_tell : List Cond := .code yX1_tell cX1_tell 2 (some .int) :: wsA
def wsX2_init : List Cond := .code yX2_init cX2_init 2 none :: wsA
def wsX2_copy : List Cond := .code yX2_copy cX2_copy 3 none :: wsA
def wsX2_begin : List Cond := .code yX2_begin cX2_begin 2 none :: wsA
def wsX2_hasComer : List Cond := .code yX2_hasComer cX2_hasComer 2 (some .boolean) :: wsA
def wsX2_kettlesInUse : List Cond := .code yX2_kettlesInUse cX2_kettlesInUse 1 (some .int) :: wsA
def wsX2_settingRefusal : List Cond := .code yX2_settingRefusal cX2_settingRefusal 5 (some .int) :: wsA
def wsX2_change : List Cond := .code yX2_change cX2_change 4 (some .int) :: wsA
def wsX2_add : List Cond := .code yX2_add cX2_add 8 (some .boolean) :: wsA
def wsX2_isOver : List Cond := .code yX2_isOver cX2_isOver 1 (some .boolean) :: wsA
def wsX2_allFree : List Cond := .code yX2_allFree cX2_allFree 2 (some .boolean) :: wsA
def wsX2_pass : List Cond := .code yX2_pass cX2_pass 3 none :: wsA
def wsX2_passMinute : List Cond := .code yX2_passMinute cX2_passMinute 2 none :: wsA
def wsX2_lineUp : List Cond := .code yX2_lineUp cX2_lineUp 2 none :: wsA
def wsX2_loseImpatient : List Cond := .code yX2_loseImpatient cX2_loseImpatient 3 none :: wsA
def wsX2_serve : List Cond := .code yX2_serve cX2_serve 4 (some .boolean) :: wsA
def wsX2_boil : List Cond := .code yX2_boil cX2_boil 5 none :: wsA
def wsX2_firstReady : List Cond := .code yX2_firstReady cX2_firstReady 3 (some (.object "FilledForOne$Kettle")) :: wsA
def wsX2_firstFree : List Cond := .code yX2_firstFree cX2_firstFree 2 (some (.object "FilledForOne$Kettle")) :: wsA
def wsX2_waitsForOwn : List Cond := .code yX2_waitsForOwn cX2_waitsForOwn 3 (some .boolean) :: wsA
def wsX2_closeUp : List Cond := .code yX2_closeUp cX2_closeUp 3 none :: wsA
def wsX2_coolDown : List Cond := .code yX2_coolDown cX2_coolDown 2 none :: wsA
def wsX2_upTo : List Cond := .code yX2_upTo cX2_upTo 4 (some .int) :: wsA
def wsX2_wantsInLine : List Cond := .code yX2_wantsInLine cX2_wantsInLine 3 (some .int) :: wsA
def wsX2_wantsToCome : List Cond := .code yX2_wantsToCome cX2_wantsToCome 4 (some .int) :: wsA
def wsX2_kindsThatFill : List Cond := .code yX2_kindsThatFill cX2_kindsThatFill 4 (some .int) :: wsA
def wsX2_comersWith : List Cond := .code yX2_comersWith cX2_comersWith 4 (some .int) :: wsA
def wsX2_someoneWantsTooMuch : List Cond := .code yX2_someoneWantsTooMuch cX2_someoneWantsTooMuch 2 (some .boolean) :: wsA
def wsX2_allWaited : List Cond := .code yX2_allWaited cX2_allWaited 3 (some .int) :: wsA
def wsX2_cupsLeft : List Cond := .code yX2_cupsLeft cX2_cupsLeft 3 (some .int) :: wsA
def wsX2_highestLevel : List Cond := .code yX2_highestLevel cX2_highestLevel 3 (some .int) :: wsA
def wsX2_cost : List Cond := .code yX2_cost cX2_cost 1 (some .int) :: wsA
def wsX3_init : List Cond := .code yX3_init cX3_init 1 none :: wsA
def wsX3_copy : List Cond := .code yX3_copy cX3_copy 2 none :: wsA
def wsX3_begin : List Cond := .code yX3_begin cX3_begin 1 none :: wsA
def wsX3_isFree : List Cond := .code yX3_isFree cX3_isFree 2 (some .boolean) :: wsA
def wsX3_isReady : List Cond := .code yX3_isReady cX3_isReady 3 (some .boolean) :: wsA
def wsX3_fill : List Cond := .code yX3_fill cX3_fill 2 none :: wsA
def wsX3_putOn : List Cond := .code yX3_putOn cX3_putOn 4 none :: wsA
def wsX3_cool : List Cond := .code yX3_cool cX3_cool 2 none :: wsA
def wsX3_tell : List Cond := .code yX3_tell cX3_tell 3 (some .int) :: wsA
def wsX4_init : List Cond := .code yX4_init cX4_init 1 none :: wsA
def wsX4_append : List Cond := .code yX4_append cX4_append 2 (some .int) :: wsA
def wsX4_read : List Cond := .code yX4_read cX4_read 4 (some .int) :: wsA
def wsX4_skipStatement : List Cond := .code yX4_skipStatement cX4_skipStatement 1 (some .boolean) :: wsA
def wsX4_skip : List Cond := .code yX4_skip cX4_skip 3 (some .boolean) :: wsA
def wsX4_skipDigits : List Cond := .code yX4_skipDigits cX4_skipDigits 3 (some .boolean) :: wsA
def wsX4_carryOut : List Cond := .code yX4_carryOut cX4_carryOut 6 (some .boolean) :: wsA
def wsX4_number : List Cond := .code yX4_number cX4_number 5 (some .int) :: wsA
def wsX4_letterAt : List Cond := .code yX4_letterAt cX4_letterAt 2 (some .int) :: wsA
def wsX5_init : List Cond := .code yX5_init cX5_init 1 none :: wsA
def wsX5_take : List Cond := .code yX5_take cX5_take 2 none :: wsA
def wsX5_restOfDay : List Cond := .code yX5_restOfDay cX5_restOfDay 2 (some .int) :: wsA
def wsX5_servedAt : List Cond := .code yX5_servedAt cX5_servedAt 3 (some .int) :: wsA
def wsX5_costAnew : List Cond := .code yX5_costAnew cX5_costAnew 2 (some .int) :: wsA
def wsX5_bestKind : List Cond := .code yX5_bestKind cX5_bestKind 9 (some .int) :: wsA
def wsX5_playRounds : List Cond := .code yX5_playRounds cX5_playRounds 5 (some .int) :: wsA
def wsX5_kindDigits : List Cond := .code yX5_kindDigits cX5_kindDigits 3 (some .int) :: wsA
def wsX5_lostByKinds : List Cond := .code yX5_lostByKinds cX5_lostByKinds 5 (some .int) :: wsA
def wsX5_bestMark : List Cond := .code yX5_bestMark cX5_bestMark 6 (some .int) :: wsA
def wsX5_savedBySecond : List Cond := .code yX5_savedBySecond cX5_savedBySecond 2 (some .int) :: wsA
def wsX5_comerToFollow : List Cond := .code yX5_comerToFollow cX5_comerToFollow 7 (some .int) :: wsA
def wsX5_firstOtherLevel : List Cond := .code yX5_firstOtherLevel cX5_firstOtherLevel 4 (some .int) :: wsA
def wsX5_drawnDays : List Cond := .code yX5_drawnDays cX5_drawnDays 8 (some .int) :: wsA
def wsX5_draw : List Cond := .code yX5_draw cX5_draw 2 (some .int) :: wsA
def wsX6_init : List Cond := .code yX6_init cX6_init 1 none :: wsA
def wsX6_feed : List Cond := .code yX6_feed cX6_feed 2 (some .int) :: wsA
def wsX6_office : List Cond := .code yX6_office cX6_office 2 (some .int) :: wsA
def wsX6_comer : List Cond := .code yX6_comer cX6_comer 4 (some .int) :: wsA
def wsX6_kind : List Cond := .code yX6_kind cX6_kind 6 (some .int) :: wsA
def wsX6_kettle : List Cond := .code yX6_kettle cX6_kettle 3 (some .int) :: wsA
def wsX6_set : List Cond := .code yX6_set cX6_set 4 (some .int) :: wsA
def wsX6_go : List Cond := .code yX6_go cX6_go 2 (some .int) :: wsA
def wsX6_anew : List Cond := .code yX6_anew cX6_anew 2 (some .int) :: wsA
def wsX6_line : List Cond := .code yX6_line cX6_line 2 (some .int) :: wsA
def wsX6_rest : List Cond := .code yX6_rest cX6_rest 2 (some .int) :: wsA
def wsX6_when : List Cond := .code yX6_when cX6_when 2 (some .int) :: wsA
def wsX6_best : List Cond := .code yX6_best cX6_best 3 (some .int) :: wsA
def wsX6_rounds : List Cond := .code yX6_rounds cX6_rounds 3 (some .int) :: wsA
def wsX6_marks : List Cond := .code yX6_marks cX6_marks 2 (some .int) :: wsA
def wsX6_second : List Cond := .code yX6_second cX6_second 1 (some .int) :: wsA
def wsX6_urn : List Cond := .code yX6_urn cX6_urn 2 (some .int) :: wsA
def wsX6_least : List Cond := .code yX6_least cX6_least 2 (some .int) :: wsA
def wsX6_ferry : List Cond := .code yX6_ferry cX6_ferry 3 (some .int) :: wsA
def wsX6_times : List Cond := .code yX6_times cX6_times 2 (some .int) :: wsA
def wsX6_better : List Cond := .code yX6_better cX6_better 2 (some .int) :: wsA
def wsX6_follow : List Cond := .code yX6_follow cX6_follow 1 (some .int) :: wsA
def wsX6_row : List Cond := .code yX6_row cX6_row 2 (some .int) :: wsA
def wsX6_judge : List Cond := .code yX6_judge cX6_judge 2 (some .int) :: wsA
def wsX6_fits : List Cond := .code yX6_fits cX6_fits 2 (some .int) :: wsA
def wsX6_seeds : List Cond := .code yX6_seeds cX6_seeds 4 (some .int) :: wsA
def wsX6_image : List Cond := .code yX6_image cX6_image 1 (some .int) :: wsA
def wsX6_restore : List Cond := .code yX6_restore cX6_restore 1 (some .int) :: wsA
def wsX6_count : List Cond := .code yX6_count cX6_count 2 (some .int) :: wsA
def wsX6_refuse : List Cond := .code yX6_refuse cX6_refuse 3 (some .int) :: wsA
def wsX6_heatingMinutes : List Cond := .code yX6_heatingMinutes cX6_heatingMinutes 4 (some .int) :: wsA
def wsX7_init : List Cond := .code yX7_init cX7_init 1 none :: wsA
def wsX7_no : List Cond := .code yX7_no cX7_no 2 (some .int) :: wsA
def wsX7_lower : List Cond := .code yX7_lower cX7_lower 2 (some .int) :: wsA
def wsX7_isIn : List Cond := .code yX7_isIn cX7_isIn 3 (some .boolean) :: wsA
def wsX7_bound : List Cond := .code yX7_bound cX7_bound 3 (some .int) :: wsA
def wsX7_leastOf : List Cond := .code yX7_leastOf cX7_leastOf 1 (some .int) :: wsA
def wsX7_mostOf : List Cond := .code yX7_mostOf cX7_mostOf 1 (some .int) :: wsA
def wsX7_isComer : List Cond := .code yX7_isComer cX7_isComer 2 (some .boolean) :: wsA
def wsX7_feed : List Cond := .code yX7_feed cX7_feed 3 (some .int) :: wsA
def wsX7_next : List Cond := .code yX7_next cX7_next 1 (some .int) :: wsA
def wsX7_readsNumber : List Cond := .code yX7_readsNumber cX7_readsNumber 6 (some .boolean) :: wsA
def wsX7_readsSetting : List Cond := .code yX7_readsSetting cX7_readsSetting 2 (some .boolean) :: wsA
def wsX7_readsComer : List Cond := .code yX7_readsComer cX7_readsComer 2 (some .boolean) :: wsA
def wsX7_statement : List Cond := .code yX7_statement cX7_statement 4 (some .boolean) :: wsA
def wsX7_notSet : List Cond := .code yX7_notSet cX7_notSet 5 (some .int) :: wsA
def wsX7_comesOne : List Cond := .code yX7_comesOne cX7_comesOne 2 (some .boolean) :: wsA
def wsX7_comesAs : List Cond := .code yX7_comesAs cX7_comesAs 3 (some .boolean) :: wsA
def wsX7_office : List Cond := .code yX7_office cX7_office 3 (some .int) :: wsA
def wsX7_passes : List Cond := .code yX7_passes cX7_passes 3 none :: wsA
def wsX7_passOne : List Cond := .code yX7_passOne cX7_passOne 3 (some .int) :: wsA
def wsX7_passesAll : List Cond := .code yX7_passesAll cX7_passesAll 3 none :: wsA
def wsX7_image : List Cond := .code yX7_image cX7_image 1 (some .int) :: wsA
def wsX7_restore : List Cond := .code yX7_restore cX7_restore 1 (some .int) :: wsA
def wsX7_wantsInLine : List Cond := .code yX7_wantsInLine cX7_wantsInLine 3 (some .int) :: wsA
def wsX7_wantsSoon : List Cond := .code yX7_wantsSoon cX7_wantsSoon 4 (some .int) :: wsA
def wsX7_cupsBy : List Cond := .code yX7_cupsBy cX7_cupsBy 3 (some .int) :: wsA
def wsX7_upTo : List Cond := .code yX7_upTo cX7_upTo 4 (some .int) :: wsA
def wsX7_isFree : List Cond := .code yX7_isFree cX7_isFree 2 (some .boolean) :: wsA
def wsX7_boilTime : List Cond := .code yX7_boilTime cX7_boilTime 4 (some .int) :: wsA
def wsX7_putsOn : List Cond := .code yX7_putsOn cX7_putsOn 5 none :: wsA
def wsX7_hotFor : List Cond := .code yX7_hotFor cX7_hotFor 3 (some .int) :: wsA
def wsX7_freeFor : List Cond := .code yX7_freeFor cX7_freeFor 4 (some .int) :: wsA
def wsX7_isServed : List Cond := .code yX7_isServed cX7_isServed 3 (some .boolean) :: wsA
def wsX7_leaves : List Cond := .code yX7_leaves cX7_leaves 3 none :: wsA
def wsX7_cools : List Cond := .code yX7_cools cX7_cools 2 none :: wsA
def wsX7_goesMinute : List Cond := .code yX7_goesMinute cX7_goesMinute 3 none :: wsA
def wsX7_isOver : List Cond := .code yX7_isOver cX7_isOver 2 (some .boolean) :: wsA
def wsX7_goesToEnd : List Cond := .code yX7_goesToEnd cX7_goesToEnd 1 none :: wsA
def wsX7_begins : List Cond := .code yX7_begins cX7_begins 2 none :: wsA
def wsX7_stateMany : List Cond := .code yX7_stateMany cX7_stateMany 4 (some .int) :: wsA
def wsX7_waitedAll : List Cond := .code yX7_waitedAll cX7_waitedAll 3 (some .int) :: wsA
def wsX7_costNow : List Cond := .code yX7_costNow cX7_costNow 1 (some .int) :: wsA
def wsX7_costAnew : List Cond := .code yX7_costAnew cX7_costAnew 1 (some .int) :: wsA
def wsX7_comer : List Cond := .code yX7_comer cX7_comer 3 (some .int) :: wsA
def wsX7_kind : List Cond := .code yX7_kind cX7_kind 6 (some .int) :: wsA
def wsX7_kettle : List Cond := .code yX7_kettle cX7_kettle 3 (some .int) :: wsA
def wsX7_set : List Cond := .code yX7_set cX7_set 5 (some .int) :: wsA
def wsX7_go : List Cond := .code yX7_go cX7_go 4 (some .int) :: wsA
def wsX7_anew : List Cond := .code yX7_anew cX7_anew 2 (some .int) :: wsA
def wsX7_line : List Cond := .code yX7_line cX7_line 2 (some .int) :: wsA
def wsX7_rest : List Cond := .code yX7_rest cX7_rest 3 (some .int) :: wsA
def wsX7_when : List Cond := .code yX7_when cX7_when 3 (some .int) :: wsA
def wsX7_bestKind : List Cond := .code yX7_bestKind cX7_bestKind 8 (some .int) :: wsA
def wsX7_best : List Cond := .code yX7_best cX7_best 4 (some .int) :: wsA
def wsX7_goesRounds : List Cond := .code yX7_goesRounds cX7_goesRounds 5 (some .int) :: wsA
def wsX7_kindsDigits : List Cond := .code yX7_kindsDigits cX7_kindsDigits 3 (some .int) :: wsA
def wsX7_leastOfOneKind : List Cond := .code yX7_leastOfOneKind cX7_leastOfOneKind 4 (some .int) :: wsA
def wsX7_rounds : List Cond := .code yX7_rounds cX7_rounds 3 (some .int) :: wsA
def wsX7_marks : List Cond := .code yX7_marks cX7_marks 6 (some .int) :: wsA
def wsX7_second : List Cond := .code yX7_second cX7_second 2 (some .int) :: wsA
def wsX7_hours : List Cond := .code yX7_hours cX7_hours 4 (some .int) :: wsA
def wsX7_urn : List Cond := .code yX7_urn cX7_urn 4 (some .int) :: wsA
def wsX7_sorts : List Cond := .code yX7_sorts cX7_sorts 3 none :: wsA
def wsX7_costOfRows : List Cond := .code yX7_costOfRows cX7_costOfRows 9 (some .int) :: wsA
def wsX7_least : List Cond := .code yX7_least cX7_least 6 (some .int) :: wsA
def wsX7_ferryBy : List Cond := .code yX7_ferryBy cX7_ferryBy 7 (some .int) :: wsA
def wsX7_timesBy : List Cond := .code yX7_timesBy cX7_timesBy 4 (some .int) :: wsA
def wsX7_ferry : List Cond := .code yX7_ferry cX7_ferry 4 (some .int) :: wsA
def wsX7_times : List Cond := .code yX7_times cX7_times 3 (some .int) :: wsA
def wsX7_better : List Cond := .code yX7_better cX7_better 7 (some .int) :: wsA
def wsX7_follow : List Cond := .code yX7_follow cX7_follow 7 (some .int) :: wsA
def wsX7_row : List Cond := .code yX7_row cX7_row 3 (some .int) :: wsA
def wsX7_judge : List Cond := .code yX7_judge cX7_judge 4 (some .int) :: wsA
def wsX7_fits : List Cond := .code yX7_fits cX7_fits 5 (some .int) :: wsA
def wsX7_seeds : List Cond := .code yX7_seeds cX7_seeds 10 (some .int) :: wsA
def wsX7_count : List Cond := .code yX7_count cX7_count 2 (some .int) :: wsA
def wsJ9_floorMod_7cf53 : List Cond := .code yJ9_floorMod_7cf53 cJ9_floorMod_7cf53 3 (some .int) :: wsA
def wsJ9_max_7cf53 : List Cond := .code yJ9_max_7cf53 cJ9_max_7cf53 2 (some .int) :: wsA
def wsJ9_min_7cf53 : List Cond := .code yJ9_min_7cf53 cJ9_min_7cf53 2 (some .int) :: wsA
end
section
/-! BASE: memories, the steps of the pure pictures, worlds by places, calls and ends over them -/
abbrev Mem : Type := Nat → Nat → Int32
abbrev Rw : Type := Nat → Int32
def up2 (m : Mem) (o k : Nat) (v : Int32) : Mem := va_up m o (upd (m o) k v)
def lt' {α β : Type} (v : α) (k : α → Option β) : Option β := k v
def ck {β : Type} (i : Int32) (n : Nat) (k : Option β) : Option β := if i < 0 ∨ n ≤ i.toNatClampNeg then none else k
def ckn {β : Type} (y : Int32) (k : Option β) : Option β := if y = 0 then none else k
def ckz {β : Type} (y : Int32) (k : Option β) : Option β := if y &&& 1 = y then k else none
def bd {α β : Type} (x : Option α) (k : α → Option β) : Option β := match x with | some a => k a | none => none
def bd2 {α α2 β : Type} (x : Option (α × α2)) (k : α → α2 → Option β) : Option β := match x with | some (a, b) => k a b | none => none
def bd3 {α α2 α3 β : Type} (x : Option (α × α2 × α3)) (k : α → α2 → α3 → Option β) : Option β := match x with | some (a, b, c) => k a b c | none => none
def bd4 {α α2 α3 α4 β : Type} (x : Option (α × α2 × α3 × α4)) (k : α → α2 → α3 → α4 → Option β) : Option β := match x with | some (a, b, c, d) => k a b c d | none => none
def bd5 {α α2 α3 α4 α5 β : Type} (x : Option (α × α2 × α3 × α4 × α5)) (k : α → α2 → α3 → α4 → α5 → Option β) : Option β := match x with | some (a, b, c, d, e) => k a b c d e | none => none
theorem lt_use {α β : Type} {v y : α} {k : α → Option β} {r : β} (e : y = v) (h : lt' v k = some r) : k y = some r := by subst e; exact h
theorem ck_use {β : Type} {i : Int32} {n : Nat} {k : Option β} {r : β} (h : ck i n k = some r) : vp_in i n ∧ k = some r := by
  unfold ck at h
  split at h
  · cases h
  · exact ⟨by assumption, h⟩
theorem ckn_use {β : Type} {y : Int32} {k : Option β} {r : β} (h : ckn y k = some r) : ¬ y = 0 ∧ k = some r := by
  unfold ckn at h
  split at h
  · cases h
  · exact ⟨by assumption, h⟩
theorem ckz_use {β : Type} {y : Int32} {k : Option β} {r : β} (h : ckz y k = some r) : y &&& 1 = y ∧ k = some r := by
  unfold ckz at h
  split at h
  · exact ⟨by assumption, h⟩
  · cases h
theorem bd_use {α β : Type} {x : Option α} {k : α → Option β} {r : β} (h : bd x k = some r) : ∃ a, x = some a ∧ k a = some r := by
  cases x with
  | none => cases h
  | some a => exact ⟨a, rfl, h⟩
theorem bd2_use {α α2 β : Type} {x : Option (α × α2)} {k : α → α2 → Option β} {r : β} (h : bd2 x k = some r) : ∃ a b, x = some (a, b) ∧ k a b = some r := by
  cases x with
  | none => cases h
  | some a => exact ⟨a.1, a.2, rfl, h⟩
theorem bd3_use {α α2 α3 β : Type} {x : Option (α × α2 × α3)} {k : α → α2 → α3 → Option β} {r : β} (h : bd3 x k = some r) : ∃ a b c, x = some (a, b, c) ∧ k a b c = some r := by
  cases x with
  | none => cases h
  | some a => exact ⟨a.1, a.2.1, a.2.2, rfl, h⟩
theorem bd4_use {α α2 α3 α4 β : Type} {x : Option (α × α2 × α3 × α4)} {k : α → α2 → α3 → α4 → Option β} {r : β} (h : bd4 x k = some r) : ∃ a b c d, x = some (a, b, c, d) ∧ k a b c d = some r := by
  cases x with
  | none => cases h
  | some a => exact ⟨a.1, a.2.1, a.2.2.1, a.2.2.2, rfl, h⟩
theorem bd5_use {α α2 α3 α4 α5 β : Type} {x : Option (α × α2 × α3 × α4 × α5)} {k : α → α2 → α3 → α4 → α5 → Option β} {r : β} (h : bd5 x k = some r) : ∃ a b c d e, x = some (a, b, c, d, e) ∧ k a b c d e = some r := by
  cases x with
  | none => cases h
  | some a => exact ⟨a.1, a.2.1, a.2.2.1, a.2.2.2.1, a.2.2.2.2, rfl, h⟩
theorem if_t {c : Prop} [Decidable c] {α : Type} {a b r : α} (h : c) (q : (if c then a else b) = r) : a = r := by rwa [if_pos h] at q
theorem if_f {c : Prop} [Decidable c] {α : Type} {a b r : α} (h : ¬ c) (q : (if c then a else b) = r) : b = r := by rwa [if_neg h] at q
theorem so1 {α : Type} {a b : α} (h : some a = some b) : b = a := (Option.some.inj h).symm
theorem so2 {α β : Type} {a c : α} {b d : β} (h : some (a, b) = some (c, d)) : c = a ∧ d = b := by
  have h := Option.some.inj h
  exact ⟨(congrArg Prod.fst h).symm, (congrArg Prod.snd h).symm⟩
theorem so3 {α β γ : Type} {a a' : α} {b b' : β} {c c' : γ} (h : some (a, b, c) = some (a', b', c')) : a' = a ∧ b' = b ∧ c' = c := ⟨(so2 h).1, so2 (congrArg some (so2 h).2.symm)⟩
theorem so4 {α β γ δ : Type} {a a' : α} {b b' : β} {c c' : γ} {d d' : δ} (h : some (a, b, c, d) = some (a', b', c', d')) : a' = a ∧ b' = b ∧ c' = c ∧ d' = d := ⟨(so2 h).1, so3 (congrArg some (so2 h).2.symm)⟩
theorem so5 {α β γ δ ε : Type} {a a' : α} {b b' : β} {c c' : γ} {d d' : δ} {f f' : ε} (h : some (a, b, c, d, f) = some (a', b', c', d', f')) : a' = a ∧ b' = b ∧ c' = c ∧ d' = d ∧ f' = f := ⟨(so2 h).1, so4 (congrArg some (so2 h).2.symm)⟩
theorem no_none {α : Type} {r : α} {P : Prop} (h : (none : Option α) = some r) : P := by cases h
theorem vp_lt {i : Int32} {n : Nat} (h : vp_in i n) : i.toNatClampNeg < n := Nat.not_le.mp fun q => h (Or.inr q)
theorem nar_z {v : Int32} (h : v &&& 1 = v) : narrow .boolean (.int v) = .int v := by
  show Value.int (v &&& 1) = .int v
  rw [h]
-- a part of a world, and what comes in its place
theorem va_P_perm {D : va_G} {cl : List vw_C} {ws ws' : va_W} {H : Heap} (h : ws.Perm ws') (hP : va_P D cl ws H) : va_P D cl ws' H := fun k q hk => by
  obtain ⟨i, hi⟩ := List.getElem?_of_mem (h.mem_iff.mpr (List.mem_of_getElem? hk))
  exact hP i q hi
theorem va_D_iff {A : Nat → Prop} {ws : va_W} : va_D A ws ↔ ((ws.map Prod.fst).Nodup ∧ ∀ q ∈ ws, A q.1) := by
  have key : (ws.map Prod.fst).Nodup ↔ ∀ (i j : Nat) (hi : i < ws.length) (hj : j < ws.length), i < j → ws[i].1 ≠ ws[j].1 := by
    unfold List.Nodup
    rw [List.pairwise_iff_getElem]
    constructor
    · intro h i j hi hj hij
      have := h i j (by simpa using hi) (by simpa using hj) hij
      simpa using this
    · intro h i j hi hj hij
      have := h i j (by simpa using hi) (by simpa using hj) hij
      simpa using this
  rw [key]
  constructor
  · intro h
    refine ⟨fun i j hi hj hij e => ?_, fun q hq => ?_⟩
    · have := h.1 i j _ _ (List.getElem?_eq_getElem hi) (List.getElem?_eq_getElem hj) e
      omega
    · obtain ⟨i, hi⟩ := List.getElem?_of_mem hq
      exact h.2 i q hi
  · intro h
    refine ⟨fun i j x y hi hj hxy => ?_, fun k q hk => h.2 q (List.mem_of_getElem? hk)⟩
    obtain ⟨li, ei⟩ := List.getElem?_eq_some_iff.mp hi
    obtain ⟨lj, ej⟩ := List.getElem?_eq_some_iff.mp hj
    rcases Nat.lt_trichotomy i j with q | q | q
    · exact absurd (by rw [ei, ej]; exact hxy) (h.1 i j li lj q)
    · exact q
    · exact absurd (by rw [ei, ej]; exact hxy.symm) (h.1 j i lj li q)
theorem perm_el {α : Type} : ∀ (l : List α) (k : Nat) (e : α), l[k]? = some e → l.Perm (e :: l.eraseIdx k)
  | [], k, e, h => by simp at h
  | a :: l, 0, e, h => by
    simp at h
    subst h
    exact List.Perm.refl _
  | a :: l, k + 1, e, h => by
    have h2 := perm_el l k e (by simpa using h)
    rw [List.eraseIdx_cons_succ]
    exact (h2.cons a).trans (List.Perm.swap e a _)
theorem perm_set {α : Type} : ∀ (l : List α) (k : Nat) (e : α), k < l.length → (l.set k e).Perm (e :: l.eraseIdx k)
  | [], k, e, h => by simp at h
  | a :: l, 0, e, h => by
    show (e :: l).Perm _
    exact List.Perm.refl _
  | a :: l, k + 1, e, h => by
    have h2 := perm_set l k e (by simpa using h)
    rw [List.eraseIdx_cons_succ, List.set_cons_succ]
    exact (h2.cons a).trans (List.Perm.swap e a _)
theorem va_D_perm {A : Nat → Prop} {ws ws' : va_W} (h : ws.Perm ws') (hD : va_D A ws) : va_D A ws' := by
  rw [va_D_iff] at hD ⊢
  exact ⟨(h.map Prod.fst).nodup_iff.mp hD.1, fun q hq => hD.2 q (h.mem_iff.mpr hq)⟩
def Foc (ws wc ws1 w1 : va_W) : Prop := ∃ R : va_W, ws.Perm (wc ++ R) ∧ ws1.Perm (w1 ++ R)
theorem foc_all {ws w1 : va_W} : Foc ws ws w1 w1 := ⟨[], by rw [List.append_nil], by rw [List.append_nil]⟩
theorem foc_nil {ws : va_W} : Foc ws [] ws [] := ⟨ws, List.Perm.refl _, List.Perm.refl _⟩
theorem foc_l {Y Z yc Y1 y1 : va_W} (h : Foc Y yc Y1 y1) : Foc (Y ++ Z) yc (Y1 ++ Z) y1 := by
  obtain ⟨R, h1, h2⟩ := h
  exact ⟨R ++ Z, by rw [← List.append_assoc]; exact h1.append_right Z, by rw [← List.append_assoc]; exact h2.append_right Z⟩
theorem foc_r {X Y yc Y1 y1 : va_W} (h : Foc Y yc Y1 y1) : Foc (X ++ Y) yc (X ++ Y1) y1 := by
  obtain ⟨R, h1, h2⟩ := h
  have key : ∀ (a b c d : va_W), b.Perm (c ++ d) → (a ++ b).Perm (c ++ (a ++ d)) := by
    intro a b c d h
    refine (h.append_left a).trans ?_
    rw [← List.append_assoc, ← List.append_assoc]
    exact List.perm_append_comm.append_right d
  exact ⟨X ++ R, key _ _ _ _ h1, key _ _ _ _ h2⟩
theorem foc_app {X xc X1 x1 Y yc Y1 y1 : va_W} (h : Foc X xc X1 x1) (g : Foc Y yc Y1 y1) : Foc (X ++ Y) (xc ++ yc) (X1 ++ Y1) (x1 ++ y1) := by
  obtain ⟨R, h1, h2⟩ := h
  obtain ⟨T, g1, g2⟩ := g
  have key : ∀ (a b c d a' c' : va_W), a.Perm (b ++ a') → c.Perm (d ++ c') → (a ++ c).Perm ((b ++ d) ++ (a' ++ c')) := by
    intro a b c d a' c' h g
    refine (h.append g).trans ?_
    rw [List.append_assoc, List.append_assoc]
    refine List.Perm.append_left b ?_
    rw [← List.append_assoc, ← List.append_assoc]
    exact List.perm_append_comm.append_right c'
  exact ⟨R ++ T, key _ _ _ _ _ _ h1 g1, key _ _ _ _ _ _ h2 g2⟩
theorem foc_perm {ws wc wc' ws1 w1 w1' : va_W} (h : Foc ws wc ws1 w1) (g : wc.Perm wc') (g1 : w1.Perm w1') : Foc ws wc' ws1 w1' := by
  obtain ⟨R, h1, h2⟩ := h
  exact ⟨R, h1.trans (g.append_right R), h2.trans (g1.append_right R)⟩
theorem foc_swap {ws a b ws1 a1 b1 : va_W} (h : Foc ws (a ++ b) ws1 (a1 ++ b1)) : Foc ws (b ++ a) ws1 (b1 ++ a1) := foc_perm h List.perm_append_comm List.perm_append_comm
theorem foc_rot {ws a b c ws1 a1 b1 c1 : va_W} (h : Foc ws (a ++ (b ++ c)) ws1 (a1 ++ (b1 ++ c1))) : Foc ws (b ++ (c ++ a)) ws1 (b1 ++ (c1 ++ a1)) := by
  have h2 := foc_swap h
  rwa [List.append_assoc, List.append_assoc] at h2
theorem foc_el {ws : va_W} {k : Nat} {e e1 : Nat × va_E} {ws1 : va_W} (h : ws[k]? = some e) (hs : ws.set k e1 = ws1) : Foc ws [e] ws1 [e1] := by
  obtain ⟨hl, he⟩ := List.getElem?_eq_some_iff.mp h
  subst hs
  exact ⟨ws.eraseIdx k, perm_el ws k e h, perm_set ws k e1 hl⟩
theorem foc_els {ws : va_W} {k : Nat} {e : Nat × va_E} (h : ws[k]? = some e) : Foc ws [e] ws [e] := by
  refine foc_el h ?_
  apply List.ext_getElem?
  intro i
  rw [List.getElem?_set]
  by_cases q : k = i
  · subst q
    have hl := (List.getElem?_eq_some_iff.mp h).1
    rw [if_pos rfl, if_pos hl, h]
  · rw [if_neg q]
theorem Foc.dis {A : Nat → Prop} {ws wc ws1 w1 : va_W} (hf : Foc ws wc ws1 w1) (hD : va_D A ws) : va_D A wc := by
  obtain ⟨R, h1, -⟩ := hf
  have h := va_D_perm h1 hD
  rw [va_D_iff] at h ⊢
  rw [List.map_append] at h
  exact ⟨(List.nodup_append.mp h.1).1, fun q hq => h.2 q (List.mem_append_left _ hq)⟩
theorem Foc.free {A : Nat → Prop} {ws wc ws1 w1 : va_W} {H0 H : Heap} {locs : List Loc} (hf : Foc ws wc ws1 w1) (hD : va_D A ws) (hS : va_S A H0 H locs) (hA : ∀ q, H0.size ≤ q → A q) : ∀ q, va_A wc H.size q → A q := by
  intro q h
  rcases h with ⟨k, e, h⟩ | h
  · exact (hf.dis hD).2 k (q, e) h
  · exact hA q (Nat.le_trans hS.1 h)
theorem Foc.join {A0 : Nat → Prop} {D : va_G} {cl : List vw_C} {ws wc ws1 w1 : va_W} {H H1 : Heap} (hf : Foc ws wc ws1 w1) (hP : va_P D cl ws H) (hD : va_D A0 ws) (hF : ∀ q, va_A wc H.size q → A0 q) (hk : ∀ q : Nat, q < H.size → ¬ va_A wc H.size q → H1[q]? = H[q]?) (hP1 : va_P D cl w1 H1) (hD1 : va_D (va_A wc H.size) w1) : va_P D cl ws1 H1 ∧ va_D A0 ws1 := by
  obtain ⟨R, h1, h2⟩ := hf
  have hP' := va_P_perm h1 hP
  have hD' := va_D_perm h1 hD
  have hDi := va_D_iff.mp hD'
  rw [List.map_append] at hDi
  have hnd := List.nodup_append.mp hDi.1
  have apart : ∀ q ∈ R, q.1 < H.size ∧ ¬ va_A wc H.size q.1 := by
    intro q hq
    obtain ⟨i, hi⟩ := List.getElem?_of_mem (List.mem_append_right wc hq)
    have hl := (hP' i q hi).lt
    refine ⟨hl, ?_⟩
    rintro (⟨k, e, h⟩ | h)
    · exact hnd.2.2 q.1 (List.mem_map.mpr ⟨(q.1, e), List.mem_of_getElem? h, rfl⟩) q.1 (List.mem_map.mpr ⟨q, hq, rfl⟩) rfl
    · omega
  have gP : va_P D cl (w1 ++ R) H1 := va_P.app hP1 (fun k q hkq => by
    have hq := List.mem_of_getElem? hkq
    obtain ⟨i, hi⟩ := List.getElem?_of_mem (List.mem_append_right wc hq)
    obtain ⟨g1, g2⟩ := apart q hq
    exact (hP' i q hi).kept (hk q.1 g1 g2))
  have gD : va_D A0 (w1 ++ R) := by
    refine va_D.app (hD1.weaken (fun k q _ h => hF q.1 h)) ?_ (fun i j x y hx hy hxy => ?_)
    · rw [va_D_iff]
      exact ⟨hnd.2.1, fun q hq => hDi.2 q (List.mem_append_right _ hq)⟩
    · exact (apart y (List.mem_of_getElem? hy)).2 (by rw [← hxy]; exact hD1.2 i x hx)
  exact ⟨va_P_perm h2.symm gP, va_D_perm h2.symm gD⟩
-- a method's start and end
abbrev zK (D : va_G) (z : Nat → ClassId) (U : State) : Prop := va_K D vwCl [(z 0, .int), (z 1, .object "FilledForOne$Comer"), (z 2, .object "FilledForOne$Kettle")] U
/-- FIRST_SETTINGS, of which copies are made: its cell -/
def zF (t : Nat) (A : Nat → Prop) (U : State) (H : Heap) : Prop := ∃ cell : Cell, H[t]? = some cell ∧ U.isArrayOf cell .int ∧ cell.vm ≠ .unknown ∧ cell.slots.size = 8 ∧ (∀ j : Nat, j < 8 → cell.slots[j]? = some (.int ([8, 1, 4, 3, 1, 2, 3, 1].getD j 0))) ∧ U.vm.findClass "[I" = some cell.cls ∧ ¬ A t
theorem zF.moved {t : Nat} {A : Nat → Prop} {u U : State} {H : Heap} (hvm : u.vm.Alike U.vm) (h : zF t A u H) : zF t A U H := by
  obtain ⟨cell, h1, h2, h3, h4, h5, h6, h7⟩ := h
  exact ⟨cell, h1, State.isArrayOf_alike hvm h2, h3, h4, h5, by rw [hvm.findClass]; exact h6, h7⟩
theorem zF.kept {t : Nat} {A : Nat → Prop} {U : State} {H H1 : Heap} (h : zF t A U H) (hq : ∀ a : Nat, a < H.size → ¬ A a → H1[a]? = H[a]?) : zF t A U H1 := by
  obtain ⟨cell, h1, h2, h3, h4, h5, h6, h7⟩ := h
  exact ⟨cell, by rw [hq t (Array.getElem?_eq_some_iff.mp h1).1 h7]; exact h1, h2, h3, h4, h5, h6, h7⟩
theorem zF.narrow {t : Nat} {A B : Nat → Prop} {U : State} {H : Heap} (h : zF t A U H) (hAB : ∀ q, B q → A q) : zF t B U H := by
  obtain ⟨cell, h1, h2, h3, h4, h5, h6, h7⟩ := h
  exact ⟨cell, h1, h2, h3, h4, h5, h6, fun z => h7 (hAB t z)⟩
/-- the static arrays: where they are, what they hold -/
def zT (tt : Nat → Nat) (A : Nat → Prop) (U : State) (H : Heap) : Prop :=
  (va_Z "FilledForOne" "FIRST_SETTINGS" "[I" (.ref (tt 0)) A U H ∧ zF (tt 0) A U H) ∧
  (va_Z "FilledForOne" "LEAST_SETTINGS" "[I" (.ref (tt 1)) A U H ∧ va_T .int (tt 1) 8 (fun j => .int ([2, 0, 1, 1, 0, 0, 0, 1].getD j 0)) A U H) ∧
  (va_Z "FilledForOne" "GREATEST_SETTINGS" "[I" (.ref (tt 2)) A U H ∧ va_T .int (tt 2) 8 (fun j => .int ([11, 9, 20, 9, 9, 9, 11, 2].getD j 0)) A U H)
theorem zT.moved {tt : Nat → Nat} {A : Nat → Prop} {u U : State} {H : Heap} (hvm : u.vm.Alike U.vm) (h : zT tt A u H) : zT tt A U H :=
  ⟨⟨h.1.1.moved hvm, h.1.2.moved hvm⟩, ⟨h.2.1.1.moved hvm, h.2.1.2.moved hvm⟩, ⟨h.2.2.1.moved hvm, h.2.2.2.moved hvm⟩⟩
theorem zT.kept {tt : Nat → Nat} {A : Nat → Prop} {U : State} {H H1 : Heap} (h : zT tt A U H) (hq : ∀ a : Nat, a < H.size → ¬ A a → H1[a]? = H[a]?) : zT tt A U H1 :=
  ⟨⟨h.1.1.kept hq, h.1.2.kept hq⟩, ⟨h.2.1.1.kept hq, h.2.1.2.kept hq⟩, ⟨h.2.2.1.kept hq, h.2.2.2.kept hq⟩⟩
theorem zT.narrow {tt : Nat → Nat} {A B : Nat → Prop} {U : State} {H : Heap} (h : zT tt A U H) (hAB : ∀ q, B q → A q) : zT tt B U H :=
  ⟨⟨h.1.1.narrow hAB, h.1.2.narrow hAB⟩, ⟨h.2.1.1.narrow hAB, h.2.1.2.narrow hAB⟩, ⟨h.2.2.1.narrow hAB, h.2.2.2.narrow hAB⟩⟩
/-- what the launch says of private members of nest mates -/
def zN (U : State) : Prop :=
  va_Nw (.methodLinkNest RX0 58 yX6_heatingMinutes "FilledForOne") U ∧ va_Nw (.methodLinkNest RX3 27 yX6_heatingMinutes "FilledForOne") U ∧ va_Nw (.methodLinkNest RX2 29 yX1_init "FilledForOne") U ∧ va_Nw (.methodLinkNest RX2 36 yX3_init "FilledForOne") U ∧
  va_Nw (.fieldLinkNest RX2 9 "FilledForOne" "FIRST_SETTINGS" "[I" "FilledForOne") U ∧ va_Nw (.fieldLinkNest RX2 69 "FilledForOne" "LEAST_SETTINGS" "[I" "FilledForOne") U ∧ va_Nw (.fieldLinkNest RX2 72 "FilledForOne" "GREATEST_SETTINGS" "[I" "FilledForOne") U ∧
  va_Nw (.castable "[I" "java/lang/Cloneable") U ∧ va_AO "FilledForOne$Comer" U ∧ va_AO "FilledForOne$Kettle" U
theorem zN.warm {s U : State} (hW : s.WarmedH U.vm) (h : zN s) : zN U := ⟨va_Nw.warmM hW h.1, va_Nw.warmM hW h.2.1, va_Nw.warmM hW h.2.2.1, va_Nw.warmM hW h.2.2.2.1, va_Nw.warmF hW h.2.2.2.2.1, va_Nw.warmF hW h.2.2.2.2.2.1, va_Nw.warmF hW h.2.2.2.2.2.2.1, va_Nw.warmC hW h.2.2.2.2.2.2.2.1, va_AO.moved hW.alike h.2.2.2.2.2.2.2.2.1, va_AO.moved hW.alike h.2.2.2.2.2.2.2.2.2⟩
theorem zN.same {u U : State} (e : u.vm = U.vm) (h : zN u) : zN U := ⟨va_Nw.same rfl e h.1, va_Nw.same rfl e h.2.1, va_Nw.same rfl e h.2.2.1, va_Nw.same rfl e h.2.2.2.1, va_Nw.same rfl e h.2.2.2.2.1, va_Nw.same rfl e h.2.2.2.2.2.1, va_Nw.same rfl e h.2.2.2.2.2.2.1, va_Nw.same rfl e h.2.2.2.2.2.2.2.1, va_AO.moved (by rw [e]; exact Vm.Alike.refl _) h.2.2.2.2.2.2.2.2.1, va_AO.moved (by rw [e]; exact Vm.Alike.refl _) h.2.2.2.2.2.2.2.2.2⟩
def zPre (D : va_G) (z tt : Nat → Nat) (sz : Nat) (ws : va_W) (U : State) : Prop := U.heap.size = sz ∧ va_P D vwCl ws U.heap ∧ zK D z U ∧ va_D (fun _ => True) ws ∧ zT tt (va_A ws sz) U U.heap ∧ zN U
def zAt (D : va_G) (z : Nat → ClassId) (A : Nat → Prop) (ws : va_W) (t : State) : Prop := va_P D vwCl ws t.heap ∧ zK D z t ∧ va_D A ws
def MetI (l : Launch) (y : MethodName) (wds : List Cond) (rm : Room) (D : va_G) (z tt : Nat → Nat) (av : List Value) (ws : va_W) (r : Int32) (ws' : va_W) : Prop :=
  ∀ sz, Met l y wds rm (va_Pc av (zPre D z tt sz ws)) (va_Qi (fun (r' : Int32) (_ : Unit) => r' = r) (fun _ t => zAt D z (va_A ws sz) ws' t) (va_A ws sz)) 0 0 (va_A ws sz)
def MetV (l : Launch) (y : MethodName) (wds : List Cond) (rm : Room) (D : va_G) (z tt : Nat → Nat) (av : List Value) (ws : va_W) (ws' : va_W) : Prop :=
  ∀ sz, Met l y wds rm (va_Pc av (zPre D z tt sz ws)) (va_Qv (fun (_ : Unit) => True) (fun _ t => zAt D z (va_A ws sz) ws' t) (va_A ws sz)) 0 0 (va_A ws sz)
def MetQ (l : Launch) (y : MethodName) (wds : List Cond) (rm : Room) (D : va_G) (z tt : Nat → Nat) (av : List Value) (ws : va_W) (r : Option Nat) (ws' : va_W) : Prop :=
  ∀ sz, Met l y wds rm (va_Pc av (zPre D z tt sz ws)) (va_Qq (fun (r' : Option Nat) (_ : Unit) => r' = r) (fun _ t => zAt D z (va_A ws sz) ws' t) (va_A ws sz)) 0 0 (va_A ws sz)
theorem zPre_blind (D : va_G) (z tt : Nat → Nat) (sz : Nat) (ws : va_W) (av : List Value) : FrameBlind (va_Pc av (zPre D z tt sz ws)) := by
  intro a U g mk q
  obtain ⟨q0, q1, q2, q3, q4, q5, q6⟩ := q
  exact ⟨q0, q1, q2, va_K.moved (u := U) (U := U.calling g mk a) (Vm.Alike.refl U.vm) q3, q4, q5.moved (u := U) (U := U.calling g mk a) (Vm.Alike.refl U.vm), q6.same (u := U) (U := U.calling g mk a) rfl⟩
section ZE
variable {p : Program} {l : Launch} {e : Env} {R : Room} {s : State} {m : MethodId} {args : Array Value} {below : List Frame} {meth : Method} {c : Code} {H : Heap} {locs : List Loc} {cells slots : Nat} {Q : State → Prop}
variable {cc : ByteArray} {pc : Nat} {ls : Array Slot} {rest st0 : List Value} {D : va_G} {z tt : Nat → Nat} {A : Nat → Prop} {a : Nat} {ws wc w1 ws1 : va_W}
theorem ret_i (hexec : p.tables.exec = Jvm.exec) (hb : c.code = cc) (hr : meth.sig.returnType = some .int) (hlocks : meth.locks = false) (hK : zK D z s) {r : Int32} (hP : va_P D vwCl ws H) (hD : va_D A ws) (hS : va_S A s.heap H locs) (hdg : decode cc pc = .ok (.ireturn, 1)) :
    W p l e R s m args below meth c H locs cells slots (MQ below (va_Qi (fun (r' : Int32) (_ : Unit) => r' = r) (fun _ t => zAt D z A ws t) A) args s cells slots A) (F0 m pc ls [.int r]) :=
  W.iret hexec hb hr (fun t ht hW => ⟨⟨r, (), rfl, rfl, by rw [ht]; exact hP, va_K.moved hW.alike hK, hD⟩, hS.F ht⟩) hS.2.2 hdg
theorem ret_z (hexec : p.tables.exec = Jvm.exec) (hb : c.code = cc) (hr : meth.sig.returnType = some .boolean) (hlocks : meth.locks = false) (hK : zK D z s) {r : Int32} (hP : va_P D vwCl ws H) (hD : va_D A ws) (hS : va_S A s.heap H locs) (hz : r &&& 1 = r) (hdg : decode cc pc = .ok (.ireturn, 1)) :
    W p l e R s m args below meth c H locs cells slots (MQ below (va_Qi (fun (r' : Int32) (_ : Unit) => r' = r) (fun _ t => zAt D z A ws t) A) args s cells slots A) (F0 m pc ls [.int r]) :=
  W.zret hexec hb hr (nar_z hz) (fun t ht hW => ⟨⟨r, (), rfl, rfl, by rw [ht]; exact hP, va_K.moved hW.alike hK, hD⟩, hS.F ht⟩) hS.2.2 hdg
theorem ret_v (hexec : p.tables.exec = Jvm.exec) (hb : c.code = cc) (hr : meth.sig.returnType = none) (hlocks : meth.locks = false) (hK : zK D z s) (hP : va_P D vwCl ws H) (hD : va_D A ws) (hS : va_S A s.heap H locs) (hdg : decode cc pc = .ok (.return_, 1)) :
    W p l e R s m args below meth c H locs cells slots (MQ below (va_Qv (fun (_ : Unit) => True) (fun _ t => zAt D z A ws t) A) args s cells slots A) (F0 m pc ls []) :=
  W.vret hexec hb hr (fun t ht hW => ⟨⟨(), rfl, trivial, by rw [ht]; exact hP, va_K.moved hW.alike hK, hD⟩, hS.F ht⟩) hS.2.2 hdg
theorem ret_q (hexec : p.tables.exec = Jvm.exec) (hb : c.code = cc) {rt : FieldType} (hr : meth.sig.returnType = some rt) (hrt : (∃ n, rt = .object n) ∨ ∃ t, rt = .array t) (hlocks : meth.locks = false) (hK : zK D z s) {r : Option Nat} {v : Value} (hv : v = va_rf r) (hP : va_P D vwCl ws H) (hD : va_D A ws) (hS : va_S A s.heap H locs) (hdg : decode cc pc = .ok (.areturn, 1)) :
    W p l e R s m args below meth c H locs cells slots (MQ below (va_Qq (fun (r' : Option Nat) (_ : Unit) => r' = r) (fun _ t => zAt D z A ws t) A) args s cells slots A) (F0 m pc ls [v]) := by
  subst hv
  exact W.aret hexec hb hr hrt (va_rf_or r) (fun t ht hW => ⟨⟨r, (), rfl, rfl, by rw [ht]; exact hP, va_K.moved hW.alike hK, hD⟩, hS.F ht⟩) hS.2.2 hdg
/-- a field is written: the world is another memory's -/
theorem z_put {σ : Type} (hexec : p.tables.exec = Jvm.exec) (hb : c.code = cc) {own ref C : String} {T : u_T} {N ci index : Nat} {Ts : List Cond} (hts : ∀ w ∈ Ts, w.before args s = true) (hin : ∀ w ∈ u_ws C T N, w ∈ Ts) (ty0 : Nat → FieldType) (hty : ∀ k, k < N → parseFieldDescriptor (T k).2.2.1 = some (ty0 k)) (hnm : ∀ a, a < N → ∀ b, b < N → a ≠ b → (T a).2.1 ≠ (T b).2.1) (hown : s.vm.findClass own = some m.cls) (hK : zK D z s) (hP : va_P D vwCl ws H) (hD : va_D A ws) (hS0 : va_S A s.heap H locs) (q0 : Nat) {fs : List Value} (he : ws[q0]? = some (a, .inr (ci, fs))) (hc : vwCl[ci]? = some (C, T, N)) (k : Nat) (hk : k < N) (hlink : (Cond.fieldLink own index ref (T k).2.1 (T k).2.2.1).before args s = true) (hsame : ∀ x, s.fieldFound? (T k).1 (T k).2.1 (T k).2.2.1 = some x → s.fieldFound? ref (T k).2.1 (T k).2.2.1 = some x) (hfin : (T k).2.2.2 = false) {ty : FieldType} {v : Value} (hd : parseFieldDescriptor (T k).2.2.1 = some ty) (hn : narrow ty v = v) (hfit : fits ty v = true) (hl : k < fs.length)
    (hdg : decode cc pc = .ok (.putfield index, 3)) (Wf : σ → va_W) (x1 : σ) (hset : ws.set q0 (a, .inr (ci, fs.set k v)) = Wf x1)
    (kk : ∀ (x2 : σ), x2 = x1 → ∀ (H1 : Heap) (locs1 : List Loc), va_P D vwCl (Wf x2) H1 → va_D A (Wf x2) → va_S A s.heap H1 locs1 → W p l e R s m args below meth c H1 locs1 cells slots Q (F0 m (pc + 3) ls rest)) : W p l e R s m args below meth c H locs cells slots Q (F0 m pc ls (v :: .ref a :: rest)) :=
  va_put hexec hb hts hin ty0 hty hnm hown hK hP hD hS0 q0 he hc k hk hlink hsame hfin hd hn hfit hl hdg (fun H1 locs1 a b c => kk x1 rfl H1 locs1 (hset ▸ a) (hset ▸ b) c)
theorem z_putN {σ : Type} (hexec : p.tables.exec = Jvm.exec) (hb : c.code = cc) {own ref C host : String} {T : u_T} {N ci index : Nat} {Ts : List Cond} (hts : ∀ w ∈ Ts, w.before args s = true) (hin : ∀ w ∈ u_ws C T N, w ∈ Ts) (ty0 : Nat → FieldType) (hty : ∀ k, k < N → parseFieldDescriptor (T k).2.2.1 = some (ty0 k)) (hnm : ∀ a, a < N → ∀ b, b < N → a ≠ b → (T a).2.1 ≠ (T b).2.1) (hown : s.vm.findClass own = some m.cls) (hK : zK D z s) (hP : va_P D vwCl ws H) (hD : va_D A ws) (hS0 : va_S A s.heap H locs) (q0 : Nat) {fs : List Value} (he : ws[q0]? = some (a, .inr (ci, fs))) (hc : vwCl[ci]? = some (C, T, N)) (k : Nat) (hk : k < N) (hlink : (Cond.fieldLinkNest own index ref (T k).2.1 (T k).2.2.1 host).before args s = true) (hsame : ∀ x, s.fieldFound? (T k).1 (T k).2.1 (T k).2.2.1 = some x → s.fieldFound? ref (T k).2.1 (T k).2.2.1 = some x) (hfin : (T k).2.2.2 = false) {ty : FieldType} {v : Value} (hd : parseFieldDescriptor (T k).2.2.1 = some ty) (hn : narrow ty v = v) (hfit : fits ty v = true) (hl : k < fs.length)
    (hdg : decode cc pc = .ok (.putfield index, 3)) (Wf : σ → va_W) (x1 : σ) (hset : ws.set q0 (a, .inr (ci, fs.set k v)) = Wf x1)
    (kk : ∀ (x2 : σ), x2 = x1 → ∀ (H1 : Heap) (locs1 : List Loc), va_P D vwCl (Wf x2) H1 → va_D A (Wf x2) → va_S A s.heap H1 locs1 → W p l e R s m args below meth c H1 locs1 cells slots Q (F0 m (pc + 3) ls rest)) : W p l e R s m args below meth c H locs cells slots Q (F0 m pc ls (v :: .ref a :: rest)) :=
  va_putN hexec hb hts hin ty0 hty hnm hown hK hP hD hS0 q0 he hc k hk hlink hsame hfin hd hn hfit hl hdg (fun H1 locs1 a b c => kk x1 rfl H1 locs1 (hset ▸ a) (hset ▸ b) c)
theorem z_iast {σ : Type} (hexec : p.tables.exec = Jvm.exec) (hb : c.code = cc) (hK : zK D z s) (hP : va_P D vwCl ws H) (hD : va_D A ws) (hS : va_S A s.heap H locs) (q0 : Nat) {n : Nat} {f : Nat → Int32} (ha : ws[q0]? = some (a, .inl (z 0, n, .inl f))) {i : Int32} {x : Int32} (hin : vp_in i n) (hdg : decode cc pc = .ok (.iastore, 1))
    (Wf : σ → va_W) (x1 : σ) (hset : ws.set q0 (a, .inl (z 0, n, .inl (upd f i.toNatClampNeg x))) = Wf x1)
    (kk : ∀ (x2 : σ), x2 = x1 → ∀ (H1 : Heap) (locs1 : List Loc), va_P D vwCl (Wf x2) H1 → va_D A (Wf x2) → va_S A s.heap H1 locs1 → W p l e R s m args below meth c H1 locs1 cells slots Q (F0 m (pc + 1) ls rest)) : W p l e R s m args below meth c H locs cells slots Q (F0 m pc ls (.int x :: .int i :: .ref a :: rest)) :=
  va_iast hexec hb hK hP hD hS q0 0 ha rfl hin hdg (fun H1 locs1 a b c => kk x1 rfl H1 locs1 (hset ▸ a) (hset ▸ b) c)
theorem z_iald (hexec : p.tables.exec = Jvm.exec) (hb : c.code = cc) (hK : zK D z s) (hP : va_P D vwCl ws H) (q0 : Nat) {n : Nat} {f : Nat → Int32} (ha : ws[q0]? = some (a, .inl (z 0, n, .inl f))) {i : Int32} (hin : vp_in i n) (hdg : decode cc pc = .ok (.iaload, 1))
    (kk : W p l e R s m args below meth c H locs cells slots Q (F0 m (pc + 1) ls (.int (f i.toNatClampNeg) :: rest))) : W p l e R s m args below meth c H locs cells slots Q (F0 m pc ls (.int i :: .ref a :: rest)) :=
  va_iald hexec hb hK hP q0 0 ha rfl hin hdg kk
theorem z_ald (hexec : p.tables.exec = Jvm.exec) (hb : c.code = cc) (hK : zK D z s) (hP : va_P D vwCl ws H) (q0 t0 : Nat) {cA : ClassId} {C : String} {n : Nat} {g : Nat → Nat} (ha : ws[q0]? = some (a, .inl (cA, n, .inr (.inr (.inr (.inr (fun j => some (g j)))))))) (ht : [(z 0, FieldType.int), (z 1, .object "FilledForOne$Comer"), (z 2, .object "FilledForOne$Kettle")][t0]? = some (cA, .object C)) {i : Int32} (hin : vp_in i n) (hdg : decode cc pc = .ok (.aaload, 1))
    (kk : W p l e R s m args below meth c H locs cells slots Q (F0 m (pc + 1) ls (.ref (g i.toNatClampNeg) :: rest))) : W p l e R s m args below meth c H locs cells slots Q (F0 m pc ls (.int i :: .ref a :: rest)) :=
  va_aldq hexec hb hK hP q0 t0 ha ht hin hdg kk
theorem z_alen (hexec : p.tables.exec = Jvm.exec) (hb : c.code = cc) (hK : zK D z s) (hP : va_P D vwCl ws H) (q0 t0 : Nat) {cA : ClassId} {x : vp_A} (ha : ws[q0]? = some (a, .inl (cA, x))) {ty : FieldType} (ht : [(z 0, FieldType.int), (z 1, .object "FilledForOne$Comer"), (z 2, .object "FilledForOne$Kettle")][t0]? = some (cA, ty)) {v : Int32} (hv : Int32.ofNat x.1 = v) (hdg : decode cc pc = .ok (.arraylength, 1))
    (kk : W p l e R s m args below meth c H locs cells slots Q (F0 m (pc + 1) ls (.int v :: rest))) : W p l e R s m args below meth c H locs cells slots Q (F0 m pc ls (.ref a :: rest)) :=
  va_alen hexec hb hK hP q0 t0 ha ht hv hdg kk
/-- what a call needs of the caller's world, and what it gives back -/
theorem z_preP {D : va_G} {cl : List vw_C} {H : Heap} (hP : va_P D cl ws H) (hf : Foc ws wc ws1 w1) : va_P D cl wc H := by
  obtain ⟨R0, h1, -⟩ := hf
  exact fun k q hk => by
    have hm : q ∈ ws := h1.mem_iff.mpr (List.mem_append_left _ (List.mem_of_getElem? hk))
    obtain ⟨i, hi⟩ := List.getElem?_of_mem hm
    exact hP i q hi
theorem z_preV {C : String} {b : Nat} {As : List Value} (hK : zK D z s) (hP : va_P D vwCl ws H) (hD : va_D A ws) (hS : va_S A s.heap H locs) (hA : ∀ q, s.heap.size ≤ q → A q) (hT : zT tt A s s.heap) (hN : zN s) (hf : Foc ws wc ws1 w1) (hcell : ∃ cell : Cell, H[b]? = some cell ∧ cell.vm.isStatics = false ∧ s.vm.findClass C = some cell.cls) :
    PreV s H C b (va_Pc (.ref b :: As) (zPre D z tt H.size wc)) As := by
  refine ⟨zPre_blind _ _ _ _ _ _, hcell, fun U hU hW => ⟨rfl, by rw [hU], ?_, va_K.moved hW.alike hK, ?_, ?_, hN.warm hW⟩⟩
  · rw [hU]
    exact z_preP hP hf
  · exact (hf.dis hD).weaken (fun _ _ _ _ => trivial)
  · rw [hU]
    exact ((hT.kept (fun a h1 h2 => hS.2.1 a h1 h2)).moved hW.alike).narrow (hf.free hD hS hA)
theorem z_preS {As : List Value} (hK : zK D z s) (hP : va_P D vwCl ws H) (hD : va_D A ws) (hS : va_S A s.heap H locs) (hA : ∀ q, s.heap.size ≤ q → A q) (hT : zT tt A s s.heap) (hN : zN s) (hf : Foc ws wc ws1 w1) :
    PreS s H (va_Pc As (zPre D z tt H.size wc)) As := by
  refine ⟨zPre_blind _ _ _ _ _ _, fun U hU hW => ⟨rfl, by rw [hU], ?_, va_K.moved hW.alike hK, ?_, ?_, hN.warm hW⟩⟩
  · rw [hU]
    exact z_preP hP hf
  · exact (hf.dis hD).weaken (fun _ _ _ _ => trivial)
  · rw [hU]
    exact ((hT.kept (fun a h1 h2 => hS.2.1 a h1 h2)).moved hW.alike).narrow (hf.free hD hS hA)
/-- the call has run: an int comes back -/
theorem z_goI {r : Int32} {aa : Array Value} (hr : va_Run p l e R s m args below meth c H locs cells slots 0 0 (F0 m pc ls st0) rest (va_Qi (fun (r' : Int32) (_ : Unit) => r' = r) (fun _ t => zAt D z (va_A wc H.size) w1 t) (va_A wc H.size) aa) (va_A wc H.size)) (hP : va_P D vwCl ws H) (hD : va_D A ws) (hS : va_S A s.heap H locs) (hA : ∀ q, s.heap.size ≤ q → A q) (hf : Foc ws wc ws1 w1)
    (kk : ∀ (H1 : Heap) (locs1 : List Loc), va_P D vwCl ws1 H1 → va_D A ws1 → va_S A s.heap H1 locs1 → W p l e R s m args below meth c H1 locs1 cells slots Q (F0 m (pc + 3) ls (.int r :: rest))) : W p l e R s m args below meth c H locs cells slots Q (F0 m pc ls st0) := by
  have hF := hf.free hD hS hA
  refine va_calli hr hS (fun q _ h => hF q h) hF (fun r' u t H1 locs1 ht hvm hw hB hz1 hk1 hS1 => ?_)
  obtain ⟨hP1, -, hD1⟩ := hB
  rw [ht] at hP1
  obtain ⟨g1, g2⟩ := hf.join hP hD hF hk1 hP1 hD1
  have hw : r' = r := hw
  rw [hw]
  exact kk H1 locs1 g1 g2 hS1
theorem z_goV {aa : Array Value} (hr : va_Run p l e R s m args below meth c H locs cells slots 0 0 (F0 m pc ls st0) rest (va_Qv (fun (_ : Unit) => True) (fun _ t => zAt D z (va_A wc H.size) w1 t) (va_A wc H.size) aa) (va_A wc H.size)) (hP : va_P D vwCl ws H) (hD : va_D A ws) (hS : va_S A s.heap H locs) (hA : ∀ q, s.heap.size ≤ q → A q) (hf : Foc ws wc ws1 w1)
    (kk : ∀ (H1 : Heap) (locs1 : List Loc), va_P D vwCl ws1 H1 → va_D A ws1 → va_S A s.heap H1 locs1 → W p l e R s m args below meth c H1 locs1 cells slots Q (F0 m (pc + 3) ls rest)) : W p l e R s m args below meth c H locs cells slots Q (F0 m pc ls st0) := by
  have hF := hf.free hD hS hA
  refine va_callv hr hS (fun q _ h => hF q h) hF (fun u t H1 locs1 ht hvm hw hB hz1 hk1 hS1 => ?_)
  obtain ⟨hP1, -, hD1⟩ := hB
  rw [ht] at hP1
  obtain ⟨g1, g2⟩ := hf.join hP hD hF hk1 hP1 hD1
  exact kk H1 locs1 g1 g2 hS1
theorem z_goQ {r : Option Nat} {aa : Array Value} (hr : va_Run p l e R s m args below meth c H locs cells slots 0 0 (F0 m pc ls st0) rest (va_Qq (fun (r' : Option Nat) (_ : Unit) => r' = r) (fun _ t => zAt D z (va_A wc H.size) w1 t) (va_A wc H.size) aa) (va_A wc H.size)) (hP : va_P D vwCl ws H) (hD : va_D A ws) (hS : va_S A s.heap H locs) (hA : ∀ q, s.heap.size ≤ q → A q) (hf : Foc ws wc ws1 w1)
    (kk : ∀ (H1 : Heap) (locs1 : List Loc), va_P D vwCl ws1 H1 → va_D A ws1 → va_S A s.heap H1 locs1 → W p l e R s m args below meth c H1 locs1 cells slots Q (F0 m (pc + 3) ls (va_rf r :: rest))) : W p l e R s m args below meth c H locs cells slots Q (F0 m pc ls st0) := by
  have hF := hf.free hD hS hA
  refine va_callq hr hS (fun q _ h => hF q h) hF (fun r' u t H1 locs1 ht hvm hw hB hz1 hk1 hS1 => ?_)
  obtain ⟨hP1, -, hD1⟩ := hB
  rw [ht] at hP1
  obtain ⟨g1, g2⟩ := hf.join hP hD hF hk1 hP1 hD1
  have hw : r' = r := hw
  rw [hw]
  exact kk H1 locs1 g1 g2 hS1
end ZE

theorem Met.ofWF {l : Launch} {y : MethodName} {ws ws' : List Cond} {rm : Room} {Pc : Array Value → State → Prop} {Qc : Array Value → State → Outcome → State → Prop} {mc ms : Nat} {free : Addr → Prop} {cc : ByteArray} {maxL : Nat} {ret : Option FieldType}
    (hy : plainFor y = true) (hw : ws = Cond.code y cc maxL ret :: ws')
    (body : ∀ p e s m args below meth c s₁, BodyLoose p l y (headSpec ws rm) cc maxL ret e s m args below meth c s₁ → c.maxLocals = maxL → Pc args s →
      W p l e (headSpec ws rm).room s m args below meth c s.heap [] 0 0 (MQ below Qc args s mc ms free) (entryFrame m args maxL)) : Met l y ws rm Pc Qc mc ms free := by
  refine MetFree.of_bodySF (code := cc) (maxLocals := maxL) (ret := ret) hy ?_ ?_
  · intro args s m h hn
    obtain ⟨meth, c, h1, h2, h3, h4, h5, h6, -, -⟩ := Cond.code_spec hn (atoms_spec (ws := ws) h _ (by rw [hw]; exact List.mem_cons_self))
    exact ⟨meth, c, h1, h2, h3, h4, h5, h6⟩
  · intro p e s m args below meth c s₁ B hml hP _
    have hh0 : s₁.heap = s.heap := by rw [B.state]; rfl
    obtain ⟨t, a1, o, b1, b2, b3⟩ := body p e s m args below meth c s₁ B hml hP s₁ hh0 (Stand.of_body B)
    exact ⟨t, o, a1, b1, b2, ⟨b3.1, b3.2⟩⟩
-- what makes cells
def MetC {σ : Type} (l : Launch) (y : MethodName) (wds : List Cond) (rm : Room) (D : va_G) (z tt : Nat → Nat) (av : List Value) (ws : va_W) (mc ms : Nat) (φ : σ → Prop) (wf : σ → va_W) : Prop :=
  ∀ sz, Met l y wds rm (va_Pc av (zPre D z tt sz ws)) (va_Qv (fun (u : σ) => φ u) (fun u t => zAt D z (va_A ws sz) (wf u) t) (va_A ws sz)) mc ms (va_A ws sz)
theorem va_at_inl {D : va_G} {cl : List vw_C} {a : Nat} {cA : ClassId} {x y : vp_A} {H : Heap} (h : va_at D cl (a, .inl (cA, x)) H) (e : vp_cell cA x = vp_cell cA y) : va_at D cl (a, .inl (cA, y)) H := by
  show H[a]? = some (vp_cell cA y)
  rw [← e]
  exact h
theorem arrV_congr {cA : ClassId} {n : Nat} {f g : Nat → Value} (h : ∀ j, j < n → f j = g j) : arrV cA n f = arrV cA n g := by
  unfold arrV
  congr 1
  apply Array.ext
  · simp
  · intro i h1 h2
    simp at h1 h2 ⊢
    exact h i h1
theorem va_P_recell {D : va_G} {cl : List vw_C} {ws : va_W} {H : Heap} {k a : Nat} {cA : ClassId} {x y : vp_A} (hP : va_P D cl ws H) (hk : ws[k]? = some (a, .inl (cA, x))) (e : vp_cell cA x = vp_cell cA y) : va_P D cl (ws.set k (a, .inl (cA, y))) H := by
  intro i q hq
  rw [List.getElem?_set] at hq
  split at hq
  · split at hq
    · cases hq
      exact va_at_inl (hP k _ hk) e
    · cases hq
  · exact hP i q hq
theorem zK_i {D : va_G} {z : Nat → ClassId} {U : State} {cA : ClassId} (h : va_K D vwCl ([(z 0, .int), (z 1, .object "FilledForOne$Comer"), (z 2, .object "FilledForOne$Kettle")] ++ [(cA, .int)]) U) : cA = z 0 := by
  have h1 := va_nm_int (h.2 0 _ rfl).2
  have h2 := va_nm_int (h.2 3 _ rfl).2
  exact Option.some.inj (h2.symm.trans h1)
theorem zK_c {D : va_G} {z : Nat → ClassId} {U : State} {cA : ClassId} {C : String} (i : Nat) (hi : [(z 0, FieldType.int), (z 1, .object "FilledForOne$Comer"), (z 2, .object "FilledForOne$Kettle")][i]? = some (z i, .object C)) (h : va_K D vwCl ([(z 0, .int), (z 1, .object "FilledForOne$Comer"), (z 2, .object "FilledForOne$Kettle")] ++ [(cA, .object C)]) U) : cA = z i := by
  have hi' : ([(z 0, FieldType.int), (z 1, .object "FilledForOne$Comer"), (z 2, .object "FilledForOne$Kettle")] ++ [(cA, .object C)])[i]? = some (z i, .object C) := by
    rw [List.getElem?_append_left (List.getElem?_eq_some_iff.mp hi).1]; exact hi
  obtain ⟨-, kA, comp, -, -, -, h4⟩ := h.2 i _ hi'
  obtain ⟨-, kB, comp2, -, -, -, g4⟩ := h.2 3 _ rfl
  exact Option.some.inj (g4.symm.trans h4)
section ZE3
variable {p : Program} {l : Launch} {e : Env} {R : Room} {s : State} {m : MethodId} {args : Array Value} {below : List Frame} {meth : Method} {c : Code} {H : Heap} {locs : List Loc} {cells slots mc ms : Nat} {Q : State → Prop}
variable {cc : ByteArray} {pc : Nat} {ls : Array Slot} {rest st0 : List Value} {D : va_G} {z tt : Nat → Nat} {A : Nat → Prop} {a : Nat} {ws wc w1 ws1 wr : va_W}
theorem z_goC {σ : Type} {φ : σ → Prop} {wf : σ → va_W} {aa : Array Value} (hr : va_Run p l e R s m args below meth c H locs cells slots mc ms (F0 m pc ls st0) rest (va_Qv (fun (u : σ) => φ u) (fun u t => zAt D z (va_A wc H.size) (wf u) t) (va_A wc H.size) aa) (va_A wc H.size)) (hP : va_P D vwCl ws H) (hD : va_D A ws) (hS : va_S A s.heap H locs) (hA : ∀ q, s.heap.size ≤ q → A q) (isC isR : List Nat) (hC : isC.map (fun i => ws[i]?) = wc.map some) (hR : isR.map (fun i => ws[i]?) = wr.map some) (hn : va_nd isR = true) (hdis : ∀ i ∈ isR, i ∉ isC)
    (kk : ∀ (u : σ), φ u → ∀ (H1 : Heap) (locs1 : List Loc), va_P D vwCl (wr ++ wf u) H1 → va_D A (wr ++ wf u) → va_S A s.heap H1 locs1 → W p l e R s m args below meth c H1 locs1 (cells + mc) (slots + ms) Q (F0 m (pc + 3) ls rest)) : W p l e R s m args below meth c H locs cells slots Q (F0 m pc ls st0) := by
  have hF := va_free hD hS hA isC hC
  refine va_callv hr hS (fun q _ h => hF q h) hF (fun u t H1 locs1 ht hvm hw hB hz1 hk1 hS1 => ?_)
  obtain ⟨hP1, -, hD1⟩ := hB
  rw [ht] at hP1
  obtain ⟨g1, g2⟩ := va_join hP hD isC isR hC hR hn hdis hk1 hF hP1 hD1
  exact kk u hw H1 locs1 g1 g2 hS1
theorem ret_c {σ : Type} {φ : σ → Prop} {wf : σ → va_W} (u : σ) (hu : φ u) (hexec : p.tables.exec = Jvm.exec) (hb : c.code = cc) (hr : meth.sig.returnType = none) (hlocks : meth.locks = false) (hK : zK D z s) (hP : va_P D vwCl (wf u) H) (hD : va_D A (wf u)) (hS : va_S A s.heap H locs) (hdg : decode cc pc = .ok (.return_, 1)) :
    W p l e R s m args below meth c H locs cells slots (MQ below (va_Qv (fun (u : σ) => φ u) (fun u t => zAt D z A (wf u) t) A) args s cells slots A) (F0 m pc ls []) :=
  W.vret hexec hb hr (fun t ht hW => ⟨⟨u, rfl, hu, by rw [ht]; exact hP, va_K.moved hW.alike hK, hD⟩, hS.F ht⟩) hS.2.2 hdg
theorem z_newi {N' : Nat} (hexec : p.tables.exec = Jvm.exec) (hb : c.code = cc) (harr : (Cond.arrayClass .int).before args s = true) (hK : zK D z s) (hP : va_P D vwCl ws H) (hD : va_D A ws) (hS : va_S A s.heap H locs) (hA : ∀ q, s.heap.size ≤ q → A q) {n : Int32} (hn : ¬ n < 0) (hN : n.toNatClampNeg = N') (hbytes : N' * 4 ≤ 536870912) (hcells : cells + 1 ≤ R.cells) (hslots : slots + N' ≤ R.slots) (hdg : decode cc pc = .ok (.newarray .int, 2))
    (kk : ∀ (q : Nat) (H1 : Heap), va_P D vwCl (ws ++ [(q, .inl (z 0, N', .inl (fun _ => 0)))]) H1 → va_D A (ws ++ [(q, .inl (z 0, N', .inl (fun _ => 0)))]) → va_S A s.heap H1 locs → W p l e R s m args below meth c H1 locs (cells + 1) (slots + N') Q (F0 m (pc + 2) ls (.ref q :: rest))) : W p l e R s m args below meth c H locs cells slots Q (F0 m pc ls (.int n :: rest)) := by
  refine va_newa (atype := .int) (ty := .int) (a0 := (N', .inl (fun _ => 0))) hexec hb harr rfl hK hP hD hS hA (fun cA => rfl) hn hN hbytes hcells hslots hdg (fun q cA H1 hK1 hP1 hD1 hS1 => ?_)
  have hc := zK_i hK1
  subst hc
  exact kk q H1 hP1 hD1 hS1
theorem z_newq (i : Nat) {own C : String} {index N' : Nat} (hexec : p.tables.exec = Jvm.exec) (hb : c.code = cc) (hown : s.vm.findClass own = some m.cls) (hcl : (Cond.classLink own index C).before args s = true) (hover : va_AO C s) (hi : [(z 0, FieldType.int), (z 1, .object "FilledForOne$Comer"), (z 2, .object "FilledForOne$Kettle")][i]? = some (z i, .object C)) (hK : zK D z s) (hP : va_P D vwCl ws H) (hD : va_D A ws) (hS : va_S A s.heap H locs) (hA : ∀ q, s.heap.size ≤ q → A q) {n : Int32} (hn : ¬ n < 0) (hN : n.toNatClampNeg = N') (hbytes : N' * 4 ≤ 536870912) (hcells : cells + 1 ≤ R.cells) (hslots : slots + N' ≤ R.slots) (hdg : decode cc pc = .ok (.anewarray index, 3))
    (kk : ∀ (q : Nat) (H1 : Heap), va_P D vwCl (ws ++ [(q, .inl (z i, N', .inr (.inr (.inr (.inr (fun _ => none))))))]) H1 → va_D A (ws ++ [(q, .inl (z i, N', .inr (.inr (.inr (.inr (fun _ => none))))))]) → va_S A s.heap H1 locs → W p l e R s m args below meth c H1 locs (cells + 1) (slots + N') Q (F0 m (pc + 3) ls (.ref q :: rest))) : W p l e R s m args below meth c H locs cells slots Q (F0 m pc ls (.int n :: rest)) := by
  refine va_newq hexec hb hown hcl hover hK hP hD hS hA hn hN hbytes hcells hslots hdg (fun q cA H1 hK1 hP1 hD1 hS1 => ?_)
  have hc := zK_c i hi hK1
  subst hc
  exact kk q H1 hP1 hD1 hS1
theorem z_clone (hexec : p.tables.exec = Jvm.exec) (hb : c.code = cc) (hml : c.maxLocals = ls.size) {own : String} {index : Nat} (hown : s.vm.findClass own = some m.cls)
    (hlink : (Cond.methodLink own index ⟨"[I", "clone", "()Ljava/lang/Object;"⟩).before args s = true) (hsame : (Cond.sameMethod "[I" "java/lang/Object" "clone" "()Ljava/lang/Object;").before args s = true)
    (hnat : (Cond.native ⟨"java/lang/Object", "clone", "()Ljava/lang/Object;"⟩).before args s = true) (hinst : (Cond.instanceMethod ⟨"java/lang/Object", "clone", "()Ljava/lang/Object;"⟩).before args s = true)
    (hsel : (Cond.selects "[I" ⟨"[I", "clone", "()Ljava/lang/Object;"⟩ ⟨"java/lang/Object", "clone", "()Ljava/lang/Object;"⟩).before args s = true) (hcl : va_Nw (.castable "[I" "java/lang/Cloneable") s)
    (hK : zK D z s) (hP : va_P D vwCl ws H) (hD : va_D A ws) (hS : va_S A s.heap H locs) (hA : ∀ q, s.heap.size ≤ q → A q) (hF : zF a A s s.heap)
    (hframes : 1 ≤ R.frames) (hlocals : (rest.map fun v => v.category).sum + 14 ≤ R.locals) (hcells : cells + 1 ≤ R.cells) (hslots : slots + 8 ≤ R.slots) (hdg : decode cc pc = .ok (.invokevirtual index, 3))
    (kk : ∀ (q : Nat) (H1 : Heap), va_P D vwCl (ws ++ [(q, .inl (z 0, 8, .inl (fun j => [8, 1, 4, 3, 1, 2, 3, 1].getD j 0)))]) H1 → va_D A (ws ++ [(q, .inl (z 0, 8, .inl (fun j => [8, 1, 4, 3, 1, 2, 3, 1].getD j 0)))]) → va_S A s.heap H1 locs →
      W p l e R s m args below meth c H1 locs (cells + 1) (slots + 8) Q (F0 m (pc + 3) ls (.ref q :: rest))) : W p l e R s m args below meth c H locs cells slots Q (F0 m pc ls (.ref a :: rest)) := by
  obtain ⟨cell, g1, g2, g3, g4, g5, g6, g7⟩ := hF
  have hal : a < s.heap.size := (Array.getElem?_eq_some_iff.mp g1).1
  have gH : H[a]? = some cell := by rw [hS.2.1 a hal g7]; exact g1
  have hcls : cell.cls = z 0 := Option.some.inj (g6.symm.trans (va_nm_int (hK.2 0 _ rfl).2))
  have hcellE : ({ cls := cell.cls, slots := cell.slots } : Cell) = vp_cell (z 0) (8, .inl (fun j => [8, 1, 4, 3, 1, 2, 3, 1].getD j 0)) := by
    rw [hcls, vp_cell_i]
    unfold arrV
    congr 1
    apply Array.ext_getElem?
    intro i
    by_cases hi : i < 8
    · rw [g5 i hi]
      simp [hi]
    · rw [Array.getElem?_eq_none (by omega), Array.getElem?_eq_none (by simp; omega)]
  obtain ⟨c0, t0', f1, f2, f3⟩ := Cond.castable_spec (va_Nw.use (A := args) rfl hcl)
  cases g6.symm.trans f1
  intro T hT X
  have hcellT : T.heap[a]? = some cell := by rw [hT]; exact gH
  have hofT := State.isArrayOf_alike X.warmed.alike g2
  obtain ⟨hst, kA, hkA, comp, hkind⟩ := hofT
  obtain ⟨-, kS, hkS, compS, hkindS⟩ := g2
  obtain ⟨vm', X', st⟩ := X.cloneArray hexec hown hlink hsame hnat hinst hsel (a := a) (cell := cell) hcellT hst g3 g6 f2 f3
    (fun i v hv => by
      have hi : i < 8 := by rw [← g4]; exact (Array.getElem?_eq_some_iff.mp hv).1
      have hv2 := hv.symm.trans (g5 i hi)
      cases hv2
      have hk' : T.vm.classes[cell.cls]? = some kA := hkA
      simp [State.fitsSlot, State.slotType?, hk', hkind, fits])
    (g := F0 m pc ls (.ref a :: rest)) rfl (by rw [hml]) rfl (by rw [hb]; exact hdg) hframes (by show 2 * 0 + _ + 14 ≤ _; omega) hcells (by rw [g4]; exact hslots) (hloader := Vm.clonesLoader_of_array hkS hkindS)
  rw [hcellE, g4] at X'
  rw [hcellE] at st
  generalize hcl2 : vp_cell (z 0) (8, .inl (fun j => [8, 1, 4, 3, 1, 2, 3, 1].getD j 0)) = nc at X' st hcellE
  generalize hH1 : H.push nc = H1
  have z1 : H1.size = H.size + 1 := by rw [← hH1, Array.size_push]
  have e1 : H1[H.size]? = some nc := by rw [← hH1, Array.getElem?_push_size]
  have o1 : ∀ q : Nat, q < H.size → H1[q]? = H[q]? := fun q hq => by rw [← hH1, Array.getElem?_push, if_neg (Nat.ne_of_lt hq)]
  have hk : ∀ (k : Nat) (y : Nat × va_E), ws[k]? = some y → H1[y.1]? = H[y.1]? := fun k y hy => o1 y.1 ((hP k y hy).lt)
  obtain ⟨t, b1, b2⟩ := kk H.size H1 ((hP.kept hk).app (fun k y hy => by
      have hz : k < 1 := (List.getElem?_eq_some_iff.mp hy).1
      rw [show k = 0 by omega] at hy
      cases hy
      show H1[H.size]? = some (vp_cell _ _)
      rw [hcl2]
      exact e1)) (hD.push hP rfl (hA _ hS.1)) ⟨Nat.le_trans hS.1 (by omega), fun y h1 h2 => (o1 y (Nat.lt_of_lt_of_le h1 hS.1)).trans (hS.2.1 y h1 h2), hS.2.2⟩
    ((T.setVm vm').pushCell nc) (by rw [← hH1, ← hT]; rfl) X'
  refine ⟨t, st t ?_, b2⟩
  rw [hT]
  exact b1
end ZE3
end
section
def jn1 {α β : Type} (f9 : α → Option β) (g9 : (α → Option β) → Option β) : Option β := g9 f9
theorem jn1_use {α β : Type} {f9 : α → Option β} {g9 : (α → Option β) → Option β} {r : β} (h9 : jn1 f9 g9 = some r) : ∃ k, k = f9 ∧ g9 k = some r := ⟨f9, rfl, h9⟩
theorem jn1_ap {α β : Type} {f9 k : α → Option β} {a : α} {r : β} (e9 : k = f9) (h9 : k a = some r) : f9 a = some r := by subst e9; exact h9
def zl1 {α β : Type} (F9 : (α → Option β) → α → Option β) : Nat → α → Option β
  | 0, _ => none
  | n9 + 1, a => F9 (zl1 F9 n9) a
theorem zl1_use {α β : Type} {F9 : (α → Option β) → α → Option β} {n9 : Nat} {a : α} {r : β} (h9 : zl1 F9 n9 a = some r) : ∃ G, G = F9 ∧ zl1 G n9 a = some r := ⟨F9, rfl, h9⟩
theorem zl1_s {α β : Type} {F9 G : (α → Option β) → α → Option β} {n9 : Nat} {a : α} {r : β} (e9 : G = F9) (h9 : zl1 G (n9 + 1) a = some r) : F9 (zl1 G n9) a = some r := by subst e9; exact h9
def jn2 {α α2 β : Type} (f9 : α → α2 → Option β) (g9 : (α → α2 → Option β) → Option β) : Option β := g9 f9
theorem jn2_use {α α2 β : Type} {f9 : α → α2 → Option β} {g9 : (α → α2 → Option β) → Option β} {r : β} (h9 : jn2 f9 g9 = some r) : ∃ k, k = f9 ∧ g9 k = some r := ⟨f9, rfl, h9⟩
theorem jn2_ap {α α2 β : Type} {f9 k : α → α2 → Option β} {a : α} {b : α2} {r : β} (e9 : k = f9) (h9 : k a b = some r) : f9 a b = some r := by subst e9; exact h9
def zl2 {α α2 β : Type} (F9 : (α → α2 → Option β) → α → α2 → Option β) : Nat → α → α2 → Option β
  | 0, _, _ => none
  | n9 + 1, a, b => F9 (zl2 F9 n9) a b
theorem zl2_use {α α2 β : Type} {F9 : (α → α2 → Option β) → α → α2 → Option β} {n9 : Nat} {a : α} {b : α2} {r : β} (h9 : zl2 F9 n9 a b = some r) : ∃ G, G = F9 ∧ zl2 G n9 a b = some r := ⟨F9, rfl, h9⟩
theorem zl2_s {α α2 β : Type} {F9 G : (α → α2 → Option β) → α → α2 → Option β} {n9 : Nat} {a : α} {b : α2} {r : β} (e9 : G = F9) (h9 : zl2 G (n9 + 1) a b = some r) : F9 (zl2 G n9) a b = some r := by subst e9; exact h9
def jn3 {α α2 α3 β : Type} (f9 : α → α2 → α3 → Option β) (g9 : (α → α2 → α3 → Option β) → Option β) : Option β := g9 f9
theorem jn3_use {α α2 α3 β : Type} {f9 : α → α2 → α3 → Option β} {g9 : (α → α2 → α3 → Option β) → Option β} {r : β} (h9 : jn3 f9 g9 = some r) : ∃ k, k = f9 ∧ g9 k = some r := ⟨f9, rfl, h9⟩
theorem jn3_ap {α α2 α3 β : Type} {f9 k : α → α2 → α3 → Option β} {a : α} {b : α2} {c : α3} {r : β} (e9 : k = f9) (h9 : k a b c = some r) : f9 a b c = some r := by subst e9; exact h9
def zl3 {α α2 α3 β : Type} (F9 : (α → α2 → α3 → Option β) → α → α2 → α3 → Option β) : Nat → α → α2 → α3 → Option β
  | 0, _, _, _ => none
  | n9 + 1, a, b, c => F9 (zl3 F9 n9) a b c
theorem zl3_use {α α2 α3 β : Type} {F9 : (α → α2 → α3 → Option β) → α → α2 → α3 → Option β} {n9 : Nat} {a : α} {b : α2} {c : α3} {r : β} (h9 : zl3 F9 n9 a b c = some r) : ∃ G, G = F9 ∧ zl3 G n9 a b c = some r := ⟨F9, rfl, h9⟩
theorem zl3_s {α α2 α3 β : Type} {F9 G : (α → α2 → α3 → Option β) → α → α2 → α3 → Option β} {n9 : Nat} {a : α} {b : α2} {c : α3} {r : β} (e9 : G = F9) (h9 : zl3 G (n9 + 1) a b c = some r) : F9 (zl3 G n9) a b c = some r := by subst e9; exact h9
def jn4 {α α2 α3 α4 β : Type} (f9 : α → α2 → α3 → α4 → Option β) (g9 : (α → α2 → α3 → α4 → Option β) → Option β) : Option β := g9 f9
theorem jn4_use {α α2 α3 α4 β : Type} {f9 : α → α2 → α3 → α4 → Option β} {g9 : (α → α2 → α3 → α4 → Option β) → Option β} {r : β} (h9 : jn4 f9 g9 = some r) : ∃ k, k = f9 ∧ g9 k = some r := ⟨f9, rfl, h9⟩
theorem jn4_ap {α α2 α3 α4 β : Type} {f9 k : α → α2 → α3 → α4 → Option β} {a : α} {b : α2} {c : α3} {d : α4} {r : β} (e9 : k = f9) (h9 : k a b c d = some r) : f9 a b c d = some r := by subst e9; exact h9
def zl4 {α α2 α3 α4 β : Type} (F9 : (α → α2 → α3 → α4 → Option β) → α → α2 → α3 → α4 → Option β) : Nat → α → α2 → α3 → α4 → Option β
  | 0, _, _, _, _ => none
  | n9 + 1, a, b, c, d => F9 (zl4 F9 n9) a b c d
theorem zl4_use {α α2 α3 α4 β : Type} {F9 : (α → α2 → α3 → α4 → Option β) → α → α2 → α3 → α4 → Option β} {n9 : Nat} {a : α} {b : α2} {c : α3} {d : α4} {r : β} (h9 : zl4 F9 n9 a b c d = some r) : ∃ G, G = F9 ∧ zl4 G n9 a b c d = some r := ⟨F9, rfl, h9⟩
theorem zl4_s {α α2 α3 α4 β : Type} {F9 G : (α → α2 → α3 → α4 → Option β) → α → α2 → α3 → α4 → Option β} {n9 : Nat} {a : α} {b : α2} {c : α3} {d : α4} {r : β} (e9 : G = F9) (h9 : zl4 G (n9 + 1) a b c d = some r) : F9 (zl4 G n9) a b c d = some r := by subst e9; exact h9
def jn5 {α α2 α3 α4 α5 β : Type} (f9 : α → α2 → α3 → α4 → α5 → Option β) (g9 : (α → α2 → α3 → α4 → α5 → Option β) → Option β) : Option β := g9 f9
theorem jn5_use {α α2 α3 α4 α5 β : Type} {f9 : α → α2 → α3 → α4 → α5 → Option β} {g9 : (α → α2 → α3 → α4 → α5 → Option β) → Option β} {r : β} (h9 : jn5 f9 g9 = some r) : ∃ k, k = f9 ∧ g9 k = some r := ⟨f9, rfl, h9⟩
theorem jn5_ap {α α2 α3 α4 α5 β : Type} {f9 k : α → α2 → α3 → α4 → α5 → Option β} {a : α} {b : α2} {c : α3} {d : α4} {e : α5} {r : β} (e9 : k = f9) (h9 : k a b c d e = some r) : f9 a b c d e = some r := by subst e9; exact h9
def zl5 {α α2 α3 α4 α5 β : Type} (F9 : (α → α2 → α3 → α4 → α5 → Option β) → α → α2 → α3 → α4 → α5 → Option β) : Nat → α → α2 → α3 → α4 → α5 → Option β
  | 0, _, _, _, _, _ => none
  | n9 + 1, a, b, c, d, e => F9 (zl5 F9 n9) a b c d e
theorem zl5_use {α α2 α3 α4 α5 β : Type} {F9 : (α → α2 → α3 → α4 → α5 → Option β) → α → α2 → α3 → α4 → α5 → Option β} {n9 : Nat} {a : α} {b : α2} {c : α3} {d : α4} {e : α5} {r : β} (h9 : zl5 F9 n9 a b c d e = some r) : ∃ G, G = F9 ∧ zl5 G n9 a b c d e = some r := ⟨F9, rfl, h9⟩
theorem zl5_s {α α2 α3 α4 α5 β : Type} {F9 G : (α → α2 → α3 → α4 → α5 → Option β) → α → α2 → α3 → α4 → α5 → Option β} {n9 : Nat} {a : α} {b : α2} {c : α3} {d : α4} {e : α5} {r : β} (e9 : G = F9) (h9 : zl5 G (n9 + 1) a b c d e = some r) : F9 (zl5 G n9) a b c d e = some r := by subst e9; exact h9
def jn6 {α α2 α3 α4 α5 α6 β : Type} (f9 : α → α2 → α3 → α4 → α5 → α6 → Option β) (g9 : (α → α2 → α3 → α4 → α5 → α6 → Option β) → Option β) : Option β := g9 f9
theorem jn6_use {α α2 α3 α4 α5 α6 β : Type} {f9 : α → α2 → α3 → α4 → α5 → α6 → Option β} {g9 : (α → α2 → α3 → α4 → α5 → α6 → Option β) → Option β} {r : β} (h9 : jn6 f9 g9 = some r) : ∃ k, k = f9 ∧ g9 k = some r := ⟨f9, rfl, h9⟩
theorem jn6_ap {α α2 α3 α4 α5 α6 β : Type} {f9 k : α → α2 → α3 → α4 → α5 → α6 → Option β} {a : α} {b : α2} {c : α3} {d : α4} {e : α5} {f : α6} {r : β} (e9 : k = f9) (h9 : k a b c d e f = some r) : f9 a b c d e f = some r := by subst e9; exact h9
def zl6 {α α2 α3 α4 α5 α6 β : Type} (F9 : (α → α2 → α3 → α4 → α5 → α6 → Option β) → α → α2 → α3 → α4 → α5 → α6 → Option β) : Nat → α → α2 → α3 → α4 → α5 → α6 → Option β
  | 0, _, _, _, _, _, _ => none
  | n9 + 1, a, b, c, d, e, f => F9 (zl6 F9 n9) a b c d e f
theorem zl6_use {α α2 α3 α4 α5 α6 β : Type} {F9 : (α → α2 → α3 → α4 → α5 → α6 → Option β) → α → α2 → α3 → α4 → α5 → α6 → Option β} {n9 : Nat} {a : α} {b : α2} {c : α3} {d : α4} {e : α5} {f : α6} {r : β} (h9 : zl6 F9 n9 a b c d e f = some r) : ∃ G, G = F9 ∧ zl6 G n9 a b c d e f = some r := ⟨F9, rfl, h9⟩
theorem zl6_s {α α2 α3 α4 α5 α6 β : Type} {F9 G : (α → α2 → α3 → α4 → α5 → α6 → Option β) → α → α2 → α3 → α4 → α5 → α6 → Option β} {n9 : Nat} {a : α} {b : α2} {c : α3} {d : α4} {e : α5} {f : α6} {r : β} (e9 : G = F9) (h9 : zl6 G (n9 + 1) a b c d e f = some r) : F9 (zl6 G n9) a b c d e f = some r := by subst e9; exact h9
def jn7 {α α2 α3 α4 α5 α6 α7 β : Type} (f9 : α → α2 → α3 → α4 → α5 → α6 → α7 → Option β) (g9 : (α → α2 → α3 → α4 → α5 → α6 → α7 → Option β) → Option β) : Option β := g9 f9
theorem jn7_use {α α2 α3 α4 α5 α6 α7 β : Type} {f9 : α → α2 → α3 → α4 → α5 → α6 → α7 → Option β} {g9 : (α → α2 → α3 → α4 → α5 → α6 → α7 → Option β) → Option β} {r : β} (h9 : jn7 f9 g9 = some r) : ∃ k, k = f9 ∧ g9 k = some r := ⟨f9, rfl, h9⟩
theorem jn7_ap {α α2 α3 α4 α5 α6 α7 β : Type} {f9 k : α → α2 → α3 → α4 → α5 → α6 → α7 → Option β} {a : α} {b : α2} {c : α3} {d : α4} {e : α5} {f : α6} {g : α7} {r : β} (e9 : k = f9) (h9 : k a b c d e f g = some r) : f9 a b c d e f g = some r := by subst e9; exact h9
def zl7 {α α2 α3 α4 α5 α6 α7 β : Type} (F9 : (α → α2 → α3 → α4 → α5 → α6 → α7 → Option β) → α → α2 → α3 → α4 → α5 → α6 → α7 → Option β) : Nat → α → α2 → α3 → α4 → α5 → α6 → α7 → Option β
  | 0, _, _, _, _, _, _, _ => none
  | n9 + 1, a, b, c, d, e, f, g => F9 (zl7 F9 n9) a b c d e f g
theorem zl7_use {α α2 α3 α4 α5 α6 α7 β : Type} {F9 : (α → α2 → α3 → α4 → α5 → α6 → α7 → Option β) → α → α2 → α3 → α4 → α5 → α6 → α7 → Option β} {n9 : Nat} {a : α} {b : α2} {c : α3} {d : α4} {e : α5} {f : α6} {g : α7} {r : β} (h9 : zl7 F9 n9 a b c d e f g = some r) : ∃ G, G = F9 ∧ zl7 G n9 a b c d e f g = some r := ⟨F9, rfl, h9⟩
theorem zl7_s {α α2 α3 α4 α5 α6 α7 β : Type} {F9 G : (α → α2 → α3 → α4 → α5 → α6 → α7 → Option β) → α → α2 → α3 → α4 → α5 → α6 → α7 → Option β} {n9 : Nat} {a : α} {b : α2} {c : α3} {d : α4} {e : α5} {f : α6} {g : α7} {r : β} (e9 : G = F9) (h9 : zl7 G (n9 + 1) a b c d e f g = some r) : F9 (zl7 G n9) a b c d e f g = some r := by subst e9; exact h9
def jn8 {α α2 α3 α4 α5 α6 α7 α8 β : Type} (f9 : α → α2 → α3 → α4 → α5 → α6 → α7 → α8 → Option β) (g9 : (α → α2 → α3 → α4 → α5 → α6 → α7 → α8 → Option β) → Option β) : Option β := g9 f9
theorem jn8_use {α α2 α3 α4 α5 α6 α7 α8 β : Type} {f9 : α → α2 → α3 → α4 → α5 → α6 → α7 → α8 → Option β} {g9 : (α → α2 → α3 → α4 → α5 → α6 → α7 → α8 → Option β) → Option β} {r : β} (h9 : jn8 f9 g9 = some r) : ∃ k, k = f9 ∧ g9 k = some r := ⟨f9, rfl, h9⟩
theorem jn8_ap {α α2 α3 α4 α5 α6 α7 α8 β : Type} {f9 k : α → α2 → α3 → α4 → α5 → α6 → α7 → α8 → Option β} {a : α} {b : α2} {c : α3} {d : α4} {e : α5} {f : α6} {g : α7} {h : α8} {r : β} (e9 : k = f9) (h9 : k a b c d e f g h = some r) : f9 a b c d e f g h = some r := by subst e9; exact h9
def zl8 {α α2 α3 α4 α5 α6 α7 α8 β : Type} (F9 : (α → α2 → α3 → α4 → α5 → α6 → α7 → α8 → Option β) → α → α2 → α3 → α4 → α5 → α6 → α7 → α8 → Option β) : Nat → α → α2 → α3 → α4 → α5 → α6 → α7 → α8 → Option β
  | 0, _, _, _, _, _, _, _, _ => none
  | n9 + 1, a, b, c, d, e, f, g, h => F9 (zl8 F9 n9) a b c d e f g h
theorem zl8_use {α α2 α3 α4 α5 α6 α7 α8 β : Type} {F9 : (α → α2 → α3 → α4 → α5 → α6 → α7 → α8 → Option β) → α → α2 → α3 → α4 → α5 → α6 → α7 → α8 → Option β} {n9 : Nat} {a : α} {b : α2} {c : α3} {d : α4} {e : α5} {f : α6} {g : α7} {h : α8} {r : β} (h9 : zl8 F9 n9 a b c d e f g h = some r) : ∃ G, G = F9 ∧ zl8 G n9 a b c d e f g h = some r := ⟨F9, rfl, h9⟩
theorem zl8_s {α α2 α3 α4 α5 α6 α7 α8 β : Type} {F9 G : (α → α2 → α3 → α4 → α5 → α6 → α7 → α8 → Option β) → α → α2 → α3 → α4 → α5 → α6 → α7 → α8 → Option β} {n9 : Nat} {a : α} {b : α2} {c : α3} {d : α4} {e : α5} {f : α6} {g : α7} {h : α8} {r : β} (e9 : G = F9) (h9 : zl8 G (n9 + 1) a b c d e f g h = some r) : F9 (zl8 G n9) a b c d e f g h = some r := by subst e9; exact h9
def ckk {β : Type} (i n : Nat) (k : Option β) : Option β := if i < n then k else none
theorem ckk_use {β : Type} {i n : Nat} {k : Option β} {r : β} (h : ckk i n k = some r) : i < n ∧ k = some r := by
  unfold ckk at h
  split at h
  · exact ⟨by assumption, h⟩
  · cases h
def oc {β : Type} (r : Option Nat) (a : Option β) (b : Nat → Option β) : Option β := match r with | none => a | some i => b i
theorem oc_use {β : Type} {r : Option Nat} {a : Option β} {b : Nat → Option β} {x : β} (h : oc r a b = some x) : (r = none ∧ a = some x) ∨ ∃ i, r = some i ∧ b i = some x := by
  cases r with
  | none => exact Or.inl ⟨rfl, h⟩
  | some i => exact Or.inr ⟨i, rfl, h⟩
def imax (x y : Int32) : Int32 := if x < y then y else x
def imin (x y : Int32) : Int32 := if y < x then y else x
theorem fit_z {v : Int32} (h : v &&& 1 = v) : fits .boolean (.int v) = true := by
  obtain ⟨j, hj, e⟩ := pk_andE v (m := 1) 1 (by decide)
  rw [h] at e
  rcases (show j = 0 ∨ j = 1 by omega) with rfl | rfl <;> subst e <;> rfl
theorem w_beg {Y Z : va_W} {k : Nat} {e : Nat × va_E} (h : Y[k]? = some e) : (Y ++ Z)[k]? = some e := by
  rw [List.getElem?_append_left (List.getElem?_eq_some_iff.mp h).1]; exact h
theorem w_skip {X Z : va_W} {n k : Nat} {e : Nat × va_E} (hX : X.length = n) (h : Z[k]? = some e) : (X ++ Z)[n + k]? = some e := by
  rw [List.getElem?_append_right (by omega), show n + k - X.length = k by omega]; exact h
theorem s_beg {Y Y' Z : va_W} {k : Nat} {e0 e : Nat × va_E} (h : Y[k]? = some e0) (hs : Y.set k e = Y') : (Y ++ Z).set k e = Y' ++ Z := by
  rw [List.set_append_left _ _ (List.getElem?_eq_some_iff.mp h).1, hs]
theorem s_skip {X Z Z' : va_W} {n k : Nat} {e : Nat × va_E} (hX : X.length = n) (hs : Z.set k e = Z') : (X ++ Z).set (n + k) e = X ++ Z' := by
  rw [List.set_append_right _ _ (by omega), show n + k - X.length = k by omega, hs]
-- the cells
abbrev obC (r : Rw) : va_E := .inr (1, [.int (r 0), .int (r 1), .int (r 2), .int (r 3), .int (r 4), .int (r 5), .int (r 6)])
abbrev obK (r : Rw) : va_E := .inr (3, [.int (r 0), .int (r 1), .int (r 2), .int (r 3), .int (r 4)])
def WCom (h : Nat) (r : Rw) : va_W := [(h, obC r)]
def WKet (h : Nat) (r : Rw) : va_W := [(h, obK r)]
def WRow (z : Nat → ClassId) (h n : Nat) (r : Rw) : va_W := [(h, .inl (z 0, n, .inl r))]
def WMin (h d : Nat) (m : Mem) : va_W := [(h, .inr (5, [.ref d, .int (m 0 1)]))]
def WArr (z : Nat → ClassId) (a : Nat → Nat) (m : Mem) : va_W := [(a 0, .inr (0, [.ref (a 1), .ref (a 2), .int (m 0 2)])), (a 1, .inl (z 0, 8, .inl (m 1))), (a 2, .inl (z 0, 8, .inl (m 2)))]
def WLet (z : Nat → ClassId) (a : Nat → Nat) (m : Mem) : va_W := [(a 0, .inr (4, [.ref (a 1), .int (m 0 1), .int (m 0 2)])), (a 1, .inl (z 0, 96, .inl (m 1)))]
def WFac (z : Nat → ClassId) (a : Nat → Nat) (bn bk bm ba bl : Nat) (m : Mem) : va_W := [(a 0, .inr (6, [.ref bn, .ref bk, .ref bm, .ref ba, .ref bl, .ref (a 1), .ref (a 2), .int (m 0 7), .int (m 0 8)])), (a 1, .inl (z 0, 12, .inl (m 1))), (a 2, .inl (z 0, 7, .inl (m 2)))]
def WDay (z : Nat → ClassId) (a : Nat → Nat) (m : Mem) : va_W := [(a 0, .inr (2, [.ref (a 1), .ref (a 13), .ref (a 14), .ref (a 2), .int (m 0 4), .int (m 0 5), .int (m 0 6), .int (m 0 7)])), (a 1, .inl (z 0, 8, .inl (m 1))), (a 2, .inl (z 0, 8, .inl (m 2))),
  (a 3, obK (m 3)), (a 4, obK (m 4)), (a 5, obC (m 5)), (a 6, obC (m 6)), (a 7, obC (m 7)), (a 8, obC (m 8)), (a 9, obC (m 9)), (a 10, obC (m 10)), (a 11, obC (m 11)), (a 12, obC (m 12)),
  (a 13, .inl (z 1, 8, .inr (.inr (.inr (.inr (fun j => some (a (5 + j)))))))), (a 14, .inl (z 2, 2, .inr (.inr (.inr (.inr (fun j => some (a (3 + j))))))))]
def WMod (z : Nat → ClassId) (a : Nat → Nat) (m : Mem) : va_W := [(a 0, .inr (7, [.ref (a 1), .ref (a 2), .ref (a 3), .ref (a 4), .ref (a 5), .ref (a 6), .ref (a 7), .ref (a 8), .ref (a 9), .ref (a 10), .ref (a 11), .ref (a 12), .ref (a 13), .ref (a 14), .ref (a 15), .int (m 0 15), .int (m 0 16), .int (m 0 17), .int (m 0 18), .ref (a 16), .ref (a 17), .ref (a 18), .ref (a 19), .int (m 0 23), .int (m 0 24), .int (m 0 25), .ref (a 20), .int (m 0 27), .int (m 0 28), .int (m 0 29), .ref (a 21), .ref (a 22), .int (m 0 32)])),
  (a 1, .inl (z 0, 7, .inl (m 1))),
  (a 2, .inl (z 0, 8, .inl (m 2))),
  (a 3, .inl (z 0, 8, .inl (m 3))),
  (a 4, .inl (z 0, 8, .inl (m 4))),
  (a 5, .inl (z 0, 8, .inl (m 5))),
  (a 6, .inl (z 0, 8, .inl (m 6))),
  (a 7, .inl (z 0, 8, .inl (m 7))),
  (a 8, .inl (z 0, 8, .inl (m 8))),
  (a 9, .inl (z 0, 8, .inl (m 9))),
  (a 10, .inl (z 0, 8, .inl (m 10))),
  (a 11, .inl (z 0, 2, .inl (m 11))),
  (a 12, .inl (z 0, 2, .inl (m 12))),
  (a 13, .inl (z 0, 2, .inl (m 13))),
  (a 14, .inl (z 0, 2, .inl (m 14))),
  (a 15, .inl (z 0, 2, .inl (m 15))),
  (a 16, .inl (z 0, 96, .inl (m 16))),
  (a 17, .inl (z 0, 48, .inl (m 17))),
  (a 18, .inl (z 0, 48, .inl (m 18))),
  (a 19, .inl (z 0, 240, .inl (m 19))),
  (a 20, .inl (z 0, 300, .inl (m 20))),
  (a 21, .inl (z 0, 8, .inl (m 21))),
  (a 22, .inl (z 0, 12, .inl (m 22)))]
theorem WDay_c (z : Nat → ClassId) (a : Nat → Nat) (m : Mem) {i : Nat} (h : i < 8) : (WDay z a m)[5 + i]? = some (a (5 + i), obC (m (5 + i))) := by
  rcases (show i = 0 ∨ i = 1 ∨ i = 2 ∨ i = 3 ∨ i = 4 ∨ i = 5 ∨ i = 6 ∨ i = 7 by omega) with rfl | rfl | rfl | rfl | rfl | rfl | rfl | rfl <;> rfl
theorem WDay_k (z : Nat → ClassId) (a : Nat → Nat) (m : Mem) {i : Nat} (h : i < 2) : (WDay z a m)[3 + i]? = some (a (3 + i), obK (m (3 + i))) := by
  rcases (show i = 0 ∨ i = 1 by omega) with rfl | rfl <;> rfl
theorem WDay_sc (z : Nat → ClassId) (a : Nat → Nat) (m : Mem) (r : Rw) {i : Nat} (h : i < 8) : (WDay z a m).set (5 + i) (a (5 + i), obC r) = WDay z a (va_up m (5 + i) r) := by
  rcases (show i = 0 ∨ i = 1 ∨ i = 2 ∨ i = 3 ∨ i = 4 ∨ i = 5 ∨ i = 6 ∨ i = 7 by omega) with rfl | rfl | rfl | rfl | rfl | rfl | rfl | rfl <;> rfl
theorem WDay_sk (z : Nat → ClassId) (a : Nat → Nat) (m : Mem) (r : Rw) {i : Nat} (h : i < 2) : (WDay z a m).set (3 + i) (a (3 + i), obK r) = WDay z a (va_up m (3 + i) r) := by
  rcases (show i = 0 ∨ i = 1 by omega) with rfl | rfl <;> rfl
section ZE2
variable {p : Program} {l : Launch} {e : Env} {R : Room} {s : State} {m : MethodId} {args : Array Value} {below : List Frame} {meth : Method} {c : Code} {H : Heap} {locs : List Loc} {cells slots : Nat} {Q : State → Prop}
variable {cc : ByteArray} {pc : Nat} {ls : Array Slot} {rest st0 : List Value} {D : va_G} {z tt : Nat → Nat} {A : Nat → Prop} {a : Nat} {ws wc w1 ws1 : va_W}
theorem vp_in_c {i : Int32} {n k : Nat} (hk : i.toNatClampNeg = k) (h0 : ¬ i < 0) (hn : k < n) : vp_in i n := fun q => q.elim h0 (fun q => by omega)
theorem z_ialdc (hexec : p.tables.exec = Jvm.exec) (hb : c.code = cc) (hK : zK D z s) (hP : va_P D vwCl ws H) (q0 : Nat) {n : Nat} {f : Nat → Int32} (ha : ws[q0]? = some (a, .inl (z 0, n, .inl f))) {i : Int32} {k : Nat} (hk : i.toNatClampNeg = k ∧ ¬ i < 0) (hn : k < n) (hdg : decode cc pc = .ok (.iaload, 1))
    (kk : W p l e R s m args below meth c H locs cells slots Q (F0 m (pc + 1) ls (.int (f k) :: rest))) : W p l e R s m args below meth c H locs cells slots Q (F0 m pc ls (.int i :: .ref a :: rest)) := by
  refine va_iald hexec hb hK hP q0 0 ha rfl (vp_in_c hk.1 hk.2 hn) hdg ?_
  rw [hk.1]
  exact kk
theorem z_aldc (hexec : p.tables.exec = Jvm.exec) (hb : c.code = cc) (hK : zK D z s) (hP : va_P D vwCl ws H) (q0 t0 : Nat) {cA : ClassId} {C : String} {n : Nat} {g : Nat → Nat} (ha : ws[q0]? = some (a, .inl (cA, n, .inr (.inr (.inr (.inr (fun j => some (g j)))))))) (ht : [(z 0, FieldType.int), (z 1, .object "FilledForOne$Comer"), (z 2, .object "FilledForOne$Kettle")][t0]? = some (cA, .object C)) {i : Int32} {k : Nat} (hk : i.toNatClampNeg = k ∧ ¬ i < 0) (hn : k < n) (hdg : decode cc pc = .ok (.aaload, 1))
    (kk : W p l e R s m args below meth c H locs cells slots Q (F0 m (pc + 1) ls (.ref (g k) :: rest))) : W p l e R s m args below meth c H locs cells slots Q (F0 m pc ls (.int i :: .ref a :: rest)) := by
  refine z_ald hexec hb hK hP q0 t0 ha ht (vp_in_c hk.1 hk.2 hn) hdg ?_
  rw [hk.1]
  exact kk
theorem z_iastc {σ : Type} (hexec : p.tables.exec = Jvm.exec) (hb : c.code = cc) (hK : zK D z s) (hP : va_P D vwCl ws H) (hD : va_D A ws) (hS : va_S A s.heap H locs) (q0 : Nat) {n : Nat} {f : Nat → Int32} (ha : ws[q0]? = some (a, .inl (z 0, n, .inl f))) {i : Int32} {x : Int32} {k : Nat} (hk : i.toNatClampNeg = k ∧ ¬ i < 0) (hn : k < n) (hdg : decode cc pc = .ok (.iastore, 1))
    (Wf : σ → va_W) (x1 : σ) (hset : ws.set q0 (a, .inl (z 0, n, .inl (upd f k x))) = Wf x1)
    (kk : ∀ (x2 : σ), x2 = x1 → ∀ (H1 : Heap) (locs1 : List Loc), va_P D vwCl (Wf x2) H1 → va_D A (Wf x2) → va_S A s.heap H1 locs1 → W p l e R s m args below meth c H1 locs1 cells slots Q (F0 m (pc + 1) ls rest)) : W p l e R s m args below meth c H locs cells slots Q (F0 m pc ls (.int x :: .int i :: .ref a :: rest)) :=
  z_iast hexec hb hK hP hD hS q0 ha (vp_in_c hk.1 hk.2 hn) hdg Wf x1 (by rw [hk.1]; exact hset) kk
theorem z_max (hexec : p.tables.exec = Jvm.exec) (hb : c.code = cc) (hml : c.maxLocals = ls.size) {own : String} {index : Nat} (hown : s.vm.findClass own = some m.cls) (hlink : (Cond.methodLink own index Lib.Math.max.name).before args s = true) (hstat : (Cond.static Lib.Math.max.name).before args s = true) (hini : (Cond.initialized "java/lang/Math").before args s = true) (hcode : (Cond.code Lib.Math.max.name Lib.Math.max.code 2 (some .int)).before args s = true)
    (hframes : 1 ≤ R.frames) (hlocals : (rest.map fun v => v.category).sum + 13 ≤ R.locals) {x y : Int32} (hdg : decode cc pc = .ok (.invokestatic index, 3)) (hc : cells ≤ R.cells) (hs : slots ≤ R.slots)
    (kk : W p l e R s m args below meth c H locs cells slots Q (F0 m (pc + 3) ls (.int (imax x y) :: rest))) : W p l e R s m args below meth c H locs cells slots Q (F0 m pc ls (.int y :: .int x :: rest)) :=
  va_mmax hexec hb hml hown hlink hstat hini hcode hframes hlocals hc hs hdg kk
theorem z_min (hexec : p.tables.exec = Jvm.exec) (hb : c.code = cc) (hml : c.maxLocals = ls.size) {own : String} {index : Nat} (hown : s.vm.findClass own = some m.cls) (hlink : (Cond.methodLink own index Lib.Math.min.name).before args s = true) (hstat : (Cond.static Lib.Math.min.name).before args s = true) (hini : (Cond.initialized "java/lang/Math").before args s = true) (hcode : (Cond.code Lib.Math.min.name Lib.Math.min.code 2 (some .int)).before args s = true)
    (hframes : 1 ≤ R.frames) (hlocals : (rest.map fun v => v.category).sum + 13 ≤ R.locals) {x y : Int32} (hdg : decode cc pc = .ok (.invokestatic index, 3)) (hc : cells ≤ R.cells) (hs : slots ≤ R.slots)
    (kk : W p l e R s m args below meth c H locs cells slots Q (F0 m (pc + 3) ls (.int (imin x y) :: rest))) : W p l e R s m args below meth c H locs cells slots Q (F0 m pc ls (.int y :: .int x :: rest)) :=
  va_mmin hexec hb hml hown hlink hstat hini hcode hframes hlocals hc hs hdg kk
theorem z_copy {σ : Type} (hexec : p.tables.exec = Jvm.exec) (hb : c.code = cc) (hml : c.maxLocals = ls.size) {own : String} {index : Nat} (hown : s.vm.findClass own = some m.cls) (hlink : (Cond.methodLink own index arraycopyName).before args s = true) (hnat : (Cond.native arraycopyName).before args s = true) (hstat : (Cond.static arraycopyName).before args s = true) (hini : (Cond.initialized "java/lang/System").before args s = true)
    (hK : zK D z s) (hP : va_P D vwCl ws H) (hD : va_D A ws) (hS : va_S A s.heap H locs) (q0 q1 : Nat) {a0 : Nat} {n0 n1 : Nat} {f g : Nat → Int32} (ha0 : ws[q0]? = some (a0, .inl (z 0, n0, .inl f))) (ha1 : ws[q1]? = some (a, .inl (z 0, n1, .inl g)))
    {n : Int32} {nn : Nat} (h3 : ¬ n < 0) (hnn : n.toNatClampNeg = nn) (h4 : nn ≤ n0) (h5 : nn ≤ n1) (hframes : 1 ≤ R.frames) (hlocals : (rest.map fun v => v.category).sum + (nativeFrameWords "java/lang/System" "arraycopy" 5 + 11) ≤ R.locals) (hdg : decode cc pc = .ok (.invokestatic index, 3))
    (Wf : σ → va_W) (x1 : σ) (hset : ws.set q1 (a, .inl (z 0, n1, .inl (va_cpy f g 0 0 nn))) = Wf x1)
    (kk : ∀ (x2 : σ), x2 = x1 → ∀ (H1 : Heap) (locs1 : List Loc), va_P D vwCl (Wf x2) H1 → va_D A (Wf x2) → va_S A s.heap H1 locs1 → W p l e R s m args below meth c H1 locs1 cells slots Q (F0 m (pc + 3) ls rest)) : W p l e R s m args below meth c H locs cells slots Q (F0 m pc ls (.int n :: .int 0 :: .ref a :: .int 0 :: .ref a0 :: rest)) := by
  have e0 : (0 : Int32).toNatClampNeg = 0 := by decide
  refine va_copyi hexec hb hml hown hlink hnat hstat hini hK hP hD hS q0 q1 0 0 ha0 ha1 rfl rfl rfl (by decide) (by decide) h3 (by rw [hnn, e0]; omega) (by rw [hnn, e0]; omega) (fun _ _ => rfl) hframes hlocals hdg (fun H1 locs1 a b c => ?_)
  rw [hnn, e0, hset] at a b
  exact kk x1 rfl H1 locs1 a b c
theorem z_tin (hexec : p.tables.exec = Jvm.exec) (hb : c.code = cc) {x K : Int32} (hc : x = K) {dflt lo hi : Int} {offs : Array Int} {len : Nat} {off : Int} {tgt : Nat} (hdg : decode cc pc = .ok (.tableswitch dflt lo hi offs, len)) (h : offs[(K.toInt - lo).toNat]? = some off ∧ ¬ K.toInt < lo ∧ ¬ hi < K.toInt) (ht : (pc : Int) + off = (tgt : Int))
    (k : W p l e R s m args below meth c H locs cells slots Q (F0 m tgt ls rest)) : W p l e R s m args below meth c H locs cells slots Q (F0 m pc ls (.int x :: rest)) := by
  subst hc
  exact lv_tableIn hexec hb hdg h.2.1 h.2.2 h.1 ht k
end ZE2
abbrev GI (p : Program) (l : Launch) (e : Env) (R : Room) (s : State) (m : MethodId) (args : Array Value) (below : List Frame) (meth : Method) (c : Code) (A : Nat → Prop) (D : va_G) (z : Nat → ClassId) (r : Int32) (ws' : va_W) (H : Heap) (locs : List Loc) (g : JFrame) : Prop := W p l e R s m args below meth c H locs 0 0 (MQ below (va_Qi (fun (r' : Int32) (_ : Unit) => r' = r) (fun _ t => zAt D z A ws' t) A) args s 0 0 A) g
abbrev GV (p : Program) (l : Launch) (e : Env) (R : Room) (s : State) (m : MethodId) (args : Array Value) (below : List Frame) (meth : Method) (c : Code) (A : Nat → Prop) (D : va_G) (z : Nat → ClassId) (ws' : va_W) (H : Heap) (locs : List Loc) (g : JFrame) : Prop := W p l e R s m args below meth c H locs 0 0 (MQ below (va_Qv (fun (_ : Unit) => True) (fun _ t => zAt D z A ws' t) A) args s 0 0 A) g
abbrev GQ (p : Program) (l : Launch) (e : Env) (R : Room) (s : State) (m : MethodId) (args : Array Value) (below : List Frame) (meth : Method) (c : Code) (A : Nat → Prop) (D : va_G) (z : Nat → ClassId) (r : Option Nat) (ws' : va_W) (H : Heap) (locs : List Loc) (g : JFrame) : Prop := W p l e R s m args below meth c H locs 0 0 (MQ below (va_Qq (fun (r' : Option Nat) (_ : Unit) => r' = r) (fun _ t => zAt D z A ws' t) A) args s 0 0 A) g
end
section
def pX1_become (fu : Nat) (m1 : Rw) (p1 : Int32) (p2 : Int32) : Option Rw :=
  lt' (upd m1 0 p1) fun y1 =>
  lt' (upd y1 1 p2) fun y2 =>
  some y2
set_option maxHeartbeats 4000000 in
set_option maxRecDepth 100000 in
theorem tX1_become (l : Launch) (D : va_G) (z tt : Nat → Nat) (a1 : Nat) (m1 : Rw) (p1 : Int32) (p2 : Int32) (fu : Nat) (m1' : Rw) (hf : pX1_become fu m1 p1 p2 = some m1') : MetV l yX1_become wsX1_become ({ frames := 0, cells := 0, slots := 0, locals := 0 } : Room) D z tt ([.ref a1, .int p1, .int p2] : List Value) (WCom a1 m1) (WCom a1 m1') := by
  intro sz
  refine Met.ofW (cc := cX1_become) (maxL := 3) (ret := none) (by decide) rfl ?_
  intro p e s m args below meth c s₁ B hml hv
  obtain ⟨rfl, hsz, hP, hK, hD0, hT, hN⟩ := hv
  have hx := B.exec
  have hb := B.bytes
  have hr := B.returns
  have hts : ∀ w ∈ wsA, w.before ([.ref a1, .int p1, .int p2] : List Value).toArray s = true := fun w h => atoms_spec (ws := wsX1_become) B.pre w (List.mem_cons_of_mem _ h)
  have hown : s.vm.findClass RX1 = some m.cls := findClass_of_methodNamed B.named
  have hlocks := B.notSynchronized
  subst hsz
  have hD := hD0.self (sz := s.heap.size)
  generalize hAe : va_A (WCom a1 m1) s.heap.size = A at hD hT ⊢
  have hA : ∀ q : Nat, s.heap.size ≤ q → A q := fun q h => by rw [← hAe]; exact Or.inr h
  have hS : va_S A s.heap s.heap [] := va_S.rf
  have hl := lv_entry ([.ref a1, .int p1, .int p2] : List Value) (n := 3) (Nat.le_of_ble_eq_true rfl)
  rw [lg_entry_eq]
  generalize (lg_sl ([.ref a1, .int p1, .int p2] : List Value) ++ List.replicate (3 - (lg_sl ([.ref a1, .int p1, .int p2] : List Value)).length) Slot.unset).toArray = ls at hl ⊢
  have hl : lv_has ls 3 [(0, .ref a1), (1, .int p1), (2, .int p2)] := hl
  unfold pX1_become at hf
  refine lv_aload_n hx hb dX1_become_0 rfl (lv_at hl 0 rfl) ?_
  refine lv_iload_n hx hb dX1_become_1 rfl (lv_at hl 1 rfl) ?_
  refine z_put (ci := 1) (v := .int p1) (ty := .int) (C := RX1) (T := TX1) (N := 7) hx hb hts iX1 tyX1 tyX1_ok nmX1 hown hK hP hD hS 0 rfl rfl 0 (by decide) (hts _ aw85) (fun _ h9 => h9) rfl (by decide +kernel) rfl rfl (Nat.le_of_ble_eq_true rfl) dX1_become_2 (fun (w9 : Rw) => (WCom a1 w9)) (upd m1 0 p1) rfl (fun y1 ey1 H locs hP hD hS => ?_)
  have hf := lt_use ey1 hf
  refine lv_aload_n hx hb dX1_become_5 rfl (lv_at hl 0 rfl) ?_
  refine lv_iload_n hx hb dX1_become_6 rfl (lv_at hl 2 rfl) ?_
  refine z_put (ci := 1) (v := .int p2) (ty := .int) (C := RX1) (T := TX1) (N := 7) hx hb hts iX1 tyX1 tyX1_ok nmX1 hown hK hP hD hS 0 rfl rfl 1 (by decide) (hts _ aw89) (fun _ h9 => h9) rfl (by decide +kernel) rfl rfl (Nat.le_of_ble_eq_true rfl) dX1_become_7 (fun (w9 : Rw) => (WCom a1 w9)) (upd y1 1 p2) rfl (fun y2 ey2 H locs hP hD hS => ?_)
  have hf := lt_use ey2 hf
  obtain rfl := so1 hf
  exact ret_v hx hb hr hlocks hK hP hD hS dX1_become_10
def pX1_copy (fu : Nat) (m1 : Rw) (m2 : Rw) : Option Rw :=
  bd (pX1_become fu m1 (m2 0) (m2 1)) fun y1 =>
  lt' (upd y1 2 (m2 2)) fun y3 =>
  lt' (upd y3 3 (m2 3)) fun y4 =>
  lt' (upd y4 4 (m2 4)) fun y5 =>
  lt' (upd y5 5 (m2 5)) fun y6 =>
  lt' (upd y6 6 (m2 6)) fun y7 =>
  some y7
set_option maxHeartbeats 4000000 in
set_option maxRecDepth 100000 in
theorem tX1_copy (l : Launch) (D : va_G) (z tt : Nat → Nat) (a1 : Nat) (a2 : Nat) (m1 : Rw) (m2 : Rw)  (fu : Nat) (m1' : Rw) (hf : pX1_copy fu m1 m2 = some m1') : MetV l yX1_copy wsX1_copy ({ frames := 1, cells := 0, slots := 0, locals := 22 } : Room) D z tt ([.ref a1, .ref a2] : List Value) (WCom a1 m1 ++ (WCom a2 m2)) (WCom a1 m1' ++ (WCom a2 m2)) := by
  intro sz
  refine Met.ofW (cc := cX1_copy) (maxL := 2) (ret := none) (by decide) rfl ?_
  intro p e s m args below meth c s₁ B hml hv
  obtain ⟨rfl, hsz, hP, hK, hD0, hT, hN⟩ := hv
  have hx := B.exec
  have hb := B.bytes
  have hr := B.returns
  have hts : ∀ w ∈ wsA, w.before ([.ref a1, .ref a2] : List Value).toArray s = true := fun w h => atoms_spec (ws := wsX1_copy) B.pre w (List.mem_cons_of_mem _ h)
  have hown : s.vm.findClass RX1 = some m.cls := findClass_of_methodNamed B.named
  have hlocks := B.notSynchronized
  subst hsz
  have hD := hD0.self (sz := s.heap.size)
  generalize hAe : va_A (WCom a1 m1 ++ (WCom a2 m2)) s.heap.size = A at hD hT ⊢
  have hA : ∀ q : Nat, s.heap.size ≤ q → A q := fun q h => by rw [← hAe]; exact Or.inr h
  have hS : va_S A s.heap s.heap [] := va_S.rf
  have hl := lv_entry ([.ref a1, .ref a2] : List Value) (n := 2) (Nat.le_of_ble_eq_true rfl)
  rw [lg_entry_eq]
  generalize (lg_sl ([.ref a1, .ref a2] : List Value) ++ List.replicate (2 - (lg_sl ([.ref a1, .ref a2] : List Value)).length) Slot.unset).toArray = ls at hl ⊢
  have hl : lv_has ls 2 [(0, .ref a1), (1, .ref a2)] := hl
  unfold pX1_copy at hf
  refine lv_aload_n hx hb dX1_copy_0 rfl (lv_at hl 0 rfl) ?_
  refine lv_aload_n hx hb dX1_copy_1 rfl (lv_at hl 1 rfl) ?_
  refine va_get (D := D) (ci := 1) (v := .int (m2 0)) (C := RX1) (T := TX1) (N := 7) hx hb hts iX1 hown hK hP 1 rfl rfl 0 (by decide) (hts _ aw85) (fun _ h9 => h9) rfl dX1_copy_2 ?_
  refine lv_aload_n hx hb dX1_copy_5 rfl (lv_at hl 1 rfl) ?_
  refine va_get (D := D) (ci := 1) (v := .int (m2 1)) (C := RX1) (T := TX1) (N := 7) hx hb hts iX1 hown hK hP 1 rfl rfl 1 (by decide) (hts _ aw89) (fun _ h9 => h9) rfl dX1_copy_6 ?_
  obtain ⟨y1, q2, hf⟩ := bd_use hf
  have hfo : Foc (WCom a1 m1 ++ (WCom a2 m2)) (WCom a1 m1) (WCom a1 y1 ++ (WCom a2 m2)) (WCom a1 y1) := (foc_l foc_all)
  refine z_goV (ws1 := (WCom a1 y1 ++ (WCom a2 m2))) (va_runV (As := [.int (m2 0), .int (m2 1)]) (rest := []) ⟨hx, hb, hml, hown, hts⟩ (tX1_become l D z tt a1 m1 (m2 0) (m2 1) fu y1 q2 _) (cwV 2 hts (gV4 aw299 aw300 aw301 aw47 aw302) rfl rfl rfl (by decide +kernel) ⟨Nat.le_of_ble_eq_true rfl, Nat.le_of_ble_eq_true rfl⟩) (z_preV hK hP hD hS hA hT hN hfo (va_recv hK hP (ci := 1) (q0 := 0) rfl rfl)) rfl rfl hl.1 rfl (lv_room (Nat.le_of_ble_eq_true rfl)) dX1_copy_9 ⟨Nat.zero_le _, Nat.zero_le _⟩) hP hD hS hA hfo (fun H locs hP hD hS => ?_)
  refine lv_aload_n hx hb dX1_copy_12 rfl (lv_at hl 0 rfl) ?_
  refine lv_aload_n hx hb dX1_copy_13 rfl (lv_at hl 1 rfl) ?_
  refine va_get (D := D) (ci := 1) (v := .int (m2 2)) (C := RX1) (T := TX1) (N := 7) hx hb hts iX1 hown hK hP 1 rfl rfl 2 (by decide) (hts _ aw93) (fun _ h9 => h9) rfl dX1_copy_14 ?_
  refine z_put (ci := 1) (v := .int (m2 2)) (ty := .int) (C := RX1) (T := TX1) (N := 7) hx hb hts iX1 tyX1 tyX1_ok nmX1 hown hK hP hD hS 0 rfl rfl 2 (by decide) (hts _ aw93) (fun _ h9 => h9) rfl (by decide +kernel) rfl rfl (Nat.le_of_ble_eq_true rfl) dX1_copy_17 (fun (w9 : Rw) => (WCom a1 w9 ++ (WCom a2 m2))) (upd y1 2 (m2 2)) rfl (fun y3 ey3 H locs hP hD hS => ?_)
  have hf := lt_use ey3 hf
  refine lv_aload_n hx hb dX1_copy_20 rfl (lv_at hl 0 rfl) ?_
  refine lv_aload_n hx hb dX1_copy_21 rfl (lv_at hl 1 rfl) ?_
  refine va_get (D := D) (ci := 1) (v := .int (m2 3)) (C := RX1) (T := TX1) (N := 7) hx hb hts iX1 hown hK hP 1 rfl rfl 3 (by decide) (hts _ aw97) (fun _ h9 => h9) rfl dX1_copy_22 ?_
  refine z_put (ci := 1) (v := .int (m2 3)) (ty := .int) (C := RX1) (T := TX1) (N := 7) hx hb hts iX1 tyX1 tyX1_ok nmX1 hown hK hP hD hS 0 rfl rfl 3 (by decide) (hts _ aw97) (fun _ h9 => h9) rfl (by decide +kernel) rfl rfl (Nat.le_of_ble_eq_true rfl) dX1_copy_25 (fun (w9 : Rw) => (WCom a1 w9 ++ (WCom a2 m2))) (upd y3 3 (m2 3)) rfl (fun y4 ey4 H locs hP hD hS => ?_)
  have hf := lt_use ey4 hf
  refine lv_aload_n hx hb dX1_copy_28 rfl (lv_at hl 0 rfl) ?_
  refine lv_aload_n hx hb dX1_copy_29 rfl (lv_at hl 1 rfl) ?_
  refine va_get (D := D) (ci := 1) (v := .int (m2 4)) (C := RX1) (T := TX1) (N := 7) hx hb hts iX1 hown hK hP 1 rfl rfl 4 (by decide) (hts _ aw100) (fun _ h9 => h9) rfl dX1_copy_30 ?_
  refine z_put (ci := 1) (v := .int (m2 4)) (ty := .int) (C := RX1) (T := TX1) (N := 7) hx hb hts iX1 tyX1 tyX1_ok nmX1 hown hK hP hD hS 0 rfl rfl 4 (by decide) (hts _ aw100) (fun _ h9 => h9) rfl (by decide +kernel) rfl rfl (Nat.le_of_ble_eq_true rfl) dX1_copy_33 (fun (w9 : Rw) => (WCom a1 w9 ++ (WCom a2 m2))) (upd y4 4 (m2 4)) rfl (fun y5 ey5 H locs hP hD hS => ?_)
  have hf := lt_use ey5 hf
  refine lv_aload_n hx hb dX1_copy_36 rfl (lv_at hl 0 rfl) ?_
  refine lv_aload_n hx hb dX1_copy_37 rfl (lv_at hl 1 rfl) ?_
  refine va_get (D := D) (ci := 1) (v := .int (m2 5)) (C := RX1) (T := TX1) (N := 7) hx hb hts iX1 hown hK hP 1 rfl rfl 5 (by decide) (hts _ aw102) (fun _ h9 => h9) rfl dX1_copy_38 ?_
  refine z_put (ci := 1) (v := .int (m2 5)) (ty := .int) (C := RX1) (T := TX1) (N := 7) hx hb hts iX1 tyX1 tyX1_ok nmX1 hown hK hP hD hS 0 rfl rfl 5 (by decide) (hts _ aw102) (fun _ h9 => h9) rfl (by decide +kernel) rfl rfl (Nat.le_of_ble_eq_true rfl) dX1_copy_41 (fun (w9 : Rw) => (WCom a1 w9 ++ (WCom a2 m2))) (upd y5 5 (m2 5)) rfl (fun y6 ey6 H locs hP hD hS => ?_)
  have hf := lt_use ey6 hf
  refine lv_aload_n hx hb dX1_copy_44 rfl (lv_at hl 0 rfl) ?_
  refine lv_aload_n hx hb dX1_copy_45 rfl (lv_at hl 1 rfl) ?_
  refine va_get (D := D) (ci := 1) (v := .int (m2 6)) (C := RX1) (T := TX1) (N := 7) hx hb hts iX1 hown hK hP 1 rfl rfl 6 (by decide) (hts _ aw105) (fun _ h9 => h9) rfl dX1_copy_46 ?_
  refine z_put (ci := 1) (v := .int (m2 6)) (ty := .int) (C := RX1) (T := TX1) (N := 7) hx hb hts iX1 tyX1 tyX1_ok nmX1 hown hK hP hD hS 0 rfl rfl 6 (by decide) (hts _ aw105) (fun _ h9 => h9) rfl (by decide +kernel) rfl rfl (Nat.le_of_ble_eq_true rfl) dX1_copy_49 (fun (w9 : Rw) => (WCom a1 w9 ++ (WCom a2 m2))) (upd y6 6 (m2 6)) rfl (fun y7 ey7 H locs hP hD hS => ?_)
  have hf := lt_use ey7 hf
  obtain rfl := so1 hf
  exact ret_v hx hb hr hlocks hK hP hD hS dX1_copy_52
def pX1_waited (fu : Nat) (m1 : Rw) : Option Int32 :=
  if (m1 5) = 2 then
    some ((m1 6) - (m1 2))
  else
    if (m1 5) = 3 then
      some (m1 4)
    else
      some 0
set_option maxHeartbeats 4000000 in
set_option maxRecDepth 100000 in
theorem tX1_waited (l : Launch) (D : va_G) (z tt : Nat → Nat) (a1 : Nat) (m1 : Rw)  (fu : Nat) (rr : Int32) (hf : pX1_waited fu m1 = some rr) : MetI l yX1_waited wsX1_waited ({ frames := 0, cells := 0, slots := 0, locals := 0 } : Room) D z tt ([.ref a1] : List Value) (WCom a1 m1) rr (WCom a1 m1) := by
  intro sz
  refine Met.ofW (cc := cX1_waited) (maxL := 1) (ret := (some .int)) (by decide) rfl ?_
  intro p e s m args below meth c s₁ B hml hv
  obtain ⟨rfl, hsz, hP, hK, hD0, hT, hN⟩ := hv
  have hx := B.exec
  have hb := B.bytes
  have hr := B.returns
  have hts : ∀ w ∈ wsA, w.before ([.ref a1] : List Value).toArray s = true := fun w h => atoms_spec (ws := wsX1_waited) B.pre w (List.mem_cons_of_mem _ h)
  have hown : s.vm.findClass RX1 = some m.cls := findClass_of_methodNamed B.named
  have hlocks := B.notSynchronized
  subst hsz
  have hD := hD0.self (sz := s.heap.size)
  generalize hAe : va_A (WCom a1 m1) s.heap.size = A at hD hT ⊢
  have hA : ∀ q : Nat, s.heap.size ≤ q → A q := fun q h => by rw [← hAe]; exact Or.inr h
  have hS : va_S A s.heap s.heap [] := va_S.rf
  have hl := lv_entry ([.ref a1] : List Value) (n := 1) (Nat.le_of_ble_eq_true rfl)
  rw [lg_entry_eq]
  generalize (lg_sl ([.ref a1] : List Value) ++ List.replicate (1 - (lg_sl ([.ref a1] : List Value)).length) Slot.unset).toArray = ls at hl ⊢
  have hl : lv_has ls 1 [(0, .ref a1)] := hl
  unfold pX1_waited at hf
  refine lv_aload_n hx hb dX1_waited_0 rfl (lv_at hl 0 rfl) ?_
  refine va_get (D := D) (ci := 1) (v := .int (m1 5)) (C := RX1) (T := TX1) (N := 7) hx hb hts iX1 hown hK hP 0 rfl rfl 5 (by decide) (hts _ aw102) (fun _ h9 => h9) rfl dX1_waited_1 ?_
  refine lv_iconst (v := 2) hx hb dX1_waited_4 (by decide) ?_
  refine lv_icmp_ne (tgt := 18) hx hb dX1_waited_5 (by decide) (fun c1 => ?_) (fun c1 => ?_)
  · have hf := if_f c1 hf
    refine lv_aload_n hx hb dX1_waited_18 rfl (lv_at hl 0 rfl) ?_
    refine va_get (D := D) (ci := 1) (v := .int (m1 5)) (C := RX1) (T := TX1) (N := 7) hx hb hts iX1 hown hK hP 0 rfl rfl 5 (by decide) (hts _ aw102) (fun _ h9 => h9) rfl dX1_waited_19 ?_
    refine lv_iconst (v := 3) hx hb dX1_waited_22 (by decide) ?_
    refine lv_icmp_ne (tgt := 33) hx hb dX1_waited_23 (by decide) (fun c2 => ?_) (fun c2 => ?_)
    · have hf := if_f c2 hf
      refine lv_iconst (v := 0) hx hb dX1_waited_33 (by decide) ?_
      obtain rfl := so1 hf
      exact ret_i hx hb hr hlocks hK hP hD hS dX1_waited_34
    · have hf := if_t c2 hf
      refine lv_aload_n hx hb dX1_waited_26 rfl (lv_at hl 0 rfl) ?_
      refine va_get (D := D) (ci := 1) (v := .int (m1 4)) (C := RX1) (T := TX1) (N := 7) hx hb hts iX1 hown hK hP 0 rfl rfl 4 (by decide) (hts _ aw100) (fun _ h9 => h9) rfl dX1_waited_27 ?_
      refine lv_goto (tgt := 34) hx hb dX1_waited_30 (by decide) ?_
      obtain rfl := so1 hf
      exact ret_i hx hb hr hlocks hK hP hD hS dX1_waited_34
  · have hf := if_t c1 hf
    refine lv_aload_n hx hb dX1_waited_8 rfl (lv_at hl 0 rfl) ?_
    refine va_get (D := D) (ci := 1) (v := .int (m1 6)) (C := RX1) (T := TX1) (N := 7) hx hb hts iX1 hown hK hP 0 rfl rfl 6 (by decide) (hts _ aw105) (fun _ h9 => h9) rfl dX1_waited_9 ?_
    refine lv_aload_n hx hb dX1_waited_12 rfl (lv_at hl 0 rfl) ?_
    refine va_get (D := D) (ci := 1) (v := .int (m1 2)) (C := RX1) (T := TX1) (N := 7) hx hb hts iX1 hown hK hP 0 rfl rfl 2 (by decide) (hts _ aw93) (fun _ h9 => h9) rfl dX1_waited_13 ?_
    refine lv_isub hx hb dX1_waited_16 ?_
    obtain rfl := so1 hf
    exact ret_i hx hb hr hlocks hK hP hD hS dX1_waited_17
def pX1_tell (fu : Nat) (m1 : Rw) (p1 : Int32) : Option Int32 :=
  if p1 = 0 then
    some (m1 0)
  else
  if p1 = 1 then
    some (m1 1)
  else
  if p1 = 2 then
    some (m1 2)
  else
  if p1 = 3 then
    some (m1 3)
  else
  if p1 = 4 then
    some (m1 4)
  else
  if p1 = 5 then
    some (m1 5)
  else
  bd (pX1_waited fu m1) fun r7 =>
  some r7
set_option maxHeartbeats 4000000 in
set_option maxRecDepth 100000 in
theorem tX1_tell (l : Launch) (D : va_G) (z tt : Nat → Nat) (a1 : Nat) (m1 : Rw) (p1 : Int32) (fu : Nat) (rr : Int32) (hf : pX1_tell fu m1 p1 = some rr) : MetI l yX1_tell wsX1_tell ({ frames := 1, cells := 0, slots := 0, locals := 20 } : Room) D z tt ([.ref a1, .int p1] : List Value) (WCom a1 m1) rr (WCom a1 m1) := by
  intro sz
  refine Met.ofW (cc := cX1_tell) (maxL := 2) (ret := (some .int)) (by decide) rfl ?_
  intro p e s m args below meth c s₁ B hml hv
  obtain ⟨rfl, hsz, hP, hK, hD0, hT, hN⟩ := hv
  have hx := B.exec
  have hb := B.bytes
  have hr := B.returns
  have hts : ∀ w ∈ wsA, w.before ([.ref a1, .int p1] : List Value).toArray s = true := fun w h => atoms_spec (ws := wsX1_tell) B.pre w (List.mem_cons_of_mem _ h)
  have hown : s.vm.findClass RX1 = some m.cls := findClass_of_methodNamed B.named
  have hlocks := B.notSynchronized
  subst hsz
  have hD := hD0.self (sz := s.heap.size)
  generalize hAe : va_A (WCom a1 m1) s.heap.size = A at hD hT ⊢
  have hA : ∀ q : Nat, s.heap.size ≤ q → A q := fun q h => by rw [← hAe]; exact Or.inr h
  have hS : va_S A s.heap s.heap [] := va_S.rf
  have hl := lv_entry ([.ref a1, .int p1] : List Value) (n := 2) (Nat.le_of_ble_eq_true rfl)
  rw [lg_entry_eq]
  generalize (lg_sl ([.ref a1, .int p1] : List Value) ++ List.replicate (2 - (lg_sl ([.ref a1, .int p1] : List Value)).length) Slot.unset).toArray = ls at hl ⊢
  have hl : lv_has ls 2 [(0, .ref a1), (1, .int p1)] := hl
  unfold pX1_tell at hf
  refine lv_iload_n hx hb dX1_tell_0 rfl (lv_at hl 1 rfl) ?_
  by_cases c1 : p1 = 0
  · have hf := if_t c1 hf
    refine z_tin (K := 0) hx hb c1 dX1_tell_1 ⟨rfl, by decide, by decide⟩ (tgt := 40) (by decide) ?_
    refine lv_aload_n hx hb dX1_tell_40 rfl (lv_at hl 0 rfl) ?_
    refine va_get (D := D) (ci := 1) (v := .int (m1 0)) (C := RX1) (T := TX1) (N := 7) hx hb hts iX1 hown hK hP 0 rfl rfl 0 (by decide) (hts _ aw85) (fun _ h9 => h9) rfl dX1_tell_41 ?_
    obtain rfl := so1 hf
    exact ret_i hx hb hr hlocks hK hP hD hS dX1_tell_44
  have hf := if_f c1 hf
  by_cases c2 : p1 = 1
  · have hf := if_t c2 hf
    refine z_tin (K := 1) hx hb c2 dX1_tell_1 ⟨rfl, by decide, by decide⟩ (tgt := 45) (by decide) ?_
    refine lv_aload_n hx hb dX1_tell_45 rfl (lv_at hl 0 rfl) ?_
    refine va_get (D := D) (ci := 1) (v := .int (m1 1)) (C := RX1) (T := TX1) (N := 7) hx hb hts iX1 hown hK hP 0 rfl rfl 1 (by decide) (hts _ aw89) (fun _ h9 => h9) rfl dX1_tell_46 ?_
    obtain rfl := so1 hf
    exact ret_i hx hb hr hlocks hK hP hD hS dX1_tell_49
  have hf := if_f c2 hf
  by_cases c3 : p1 = 2
  · have hf := if_t c3 hf
    refine z_tin (K := 2) hx hb c3 dX1_tell_1 ⟨rfl, by decide, by decide⟩ (tgt := 50) (by decide) ?_
    refine lv_aload_n hx hb dX1_tell_50 rfl (lv_at hl 0 rfl) ?_
    refine va_get (D := D) (ci := 1) (v := .int (m1 2)) (C := RX1) (T := TX1) (N := 7) hx hb hts iX1 hown hK hP 0 rfl rfl 2 (by decide) (hts _ aw93) (fun _ h9 => h9) rfl dX1_tell_51 ?_
    obtain rfl := so1 hf
    exact ret_i hx hb hr hlocks hK hP hD hS dX1_tell_54
  have hf := if_f c3 hf
  by_cases c4 : p1 = 3
  · have hf := if_t c4 hf
    refine z_tin (K := 3) hx hb c4 dX1_tell_1 ⟨rfl, by decide, by decide⟩ (tgt := 55) (by decide) ?_
    refine lv_aload_n hx hb dX1_tell_55 rfl (lv_at hl 0 rfl) ?_
    refine va_get (D := D) (ci := 1) (v := .int (m1 3)) (C := RX1) (T := TX1) (N := 7) hx hb hts iX1 hown hK hP 0 rfl rfl 3 (by decide) (hts _ aw97) (fun _ h9 => h9) rfl dX1_tell_56 ?_
    obtain rfl := so1 hf
    exact ret_i hx hb hr hlocks hK hP hD hS dX1_tell_59
  have hf := if_f c4 hf
  by_cases c5 : p1 = 4
  · have hf := if_t c5 hf
    refine z_tin (K := 4) hx hb c5 dX1_tell_1 ⟨rfl, by decide, by decide⟩ (tgt := 60) (by decide) ?_
    refine lv_aload_n hx hb dX1_tell_60 rfl (lv_at hl 0 rfl) ?_
    refine va_get (D := D) (ci := 1) (v := .int (m1 4)) (C := RX1) (T := TX1) (N := 7) hx hb hts iX1 hown hK hP 0 rfl rfl 4 (by decide) (hts _ aw100) (fun _ h9 => h9) rfl dX1_tell_61 ?_
    obtain rfl := so1 hf
    exact ret_i hx hb hr hlocks hK hP hD hS dX1_tell_64
  have hf := if_f c5 hf
  by_cases c6 : p1 = 5
  · have hf := if_t c6 hf
    refine z_tin (K := 5) hx hb c6 dX1_tell_1 ⟨rfl, by decide, by decide⟩ (tgt := 65) (by decide) ?_
    refine lv_aload_n hx hb dX1_tell_65 rfl (lv_at hl 0 rfl) ?_
    refine va_get (D := D) (ci := 1) (v := .int (m1 5)) (C := RX1) (T := TX1) (N := 7) hx hb hts iX1 hown hK hP 0 rfl rfl 5 (by decide) (hts _ aw102) (fun _ h9 => h9) rfl dX1_tell_66 ?_
    obtain rfl := so1 hf
    exact ret_i hx hb hr hlocks hK hP hD hS dX1_tell_69
  have hf := if_f c6 hf
  refine lv_tableOut (tgt := 70) hx hb dX1_tell_1 (by have qc1 := lv_neT c1 (show (0 : Int32).toInt = 0 from by decide); have qc2 := lv_neT c2 (show (1 : Int32).toInt = 1 from by decide); have qc3 := lv_neT c3 (show (2 : Int32).toInt = 2 from by decide); have qc4 := lv_neT c4 (show (3 : Int32).toInt = 3 from by decide); have qc5 := lv_neT c5 (show (4 : Int32).toInt = 4 from by decide); have qc6 := lv_neT c6 (show (5 : Int32).toInt = 5 from by decide); omega) (by decide) ?_
  refine lv_aload_n hx hb dX1_tell_70 rfl (lv_at hl 0 rfl) ?_
  obtain ⟨r7, q8, hf⟩ := bd_use hf
  have hfo : Foc (WCom a1 m1) (WCom a1 m1) (WCom a1 m1) (WCom a1 m1) := foc_all
  refine z_goI (ws1 := (WCom a1 m1)) (va_runV (As := []) (rest := []) ⟨hx, hb, hml, hown, hts⟩ (tX1_waited l D z tt a1 m1  fu r7 q8 _) (cwV 0 hts (gV4 aw393 aw394 aw395 aw47 aw396) rfl rfl rfl (by decide +kernel) ⟨Nat.le_of_ble_eq_true rfl, Nat.le_of_ble_eq_true rfl⟩) (z_preV hK hP hD hS hA hT hN hfo (va_recv hK hP (ci := 1) (q0 := 0) rfl rfl)) rfl rfl hl.1 rfl (lv_room (Nat.le_of_ble_eq_true rfl)) dX1_tell_71 ⟨Nat.zero_le _, Nat.zero_le _⟩) hP hD hS hA hfo (fun H locs hP hD hS => ?_)
  obtain rfl := so1 hf
  exact ret_i hx hb hr hlocks hK hP hD hS dX1_tell_74
def pX3_copy (fu : Nat) (m1 : Rw) (m2 : Rw) : Option Rw :=
  lt' (upd m1 0 (m2 0)) fun y1 =>
  lt' (upd y1 1 (m2 1)) fun y2 =>
  lt' (upd y2 2 (m2 2)) fun y3 =>
  lt' (upd y3 3 (m2 3)) fun y4 =>
  lt' (upd y4 4 (m2 4)) fun y5 =>
  some y5
set_option maxHeartbeats 4000000 in
set_option maxRecDepth 100000 in
theorem tX3_copy (l : Launch) (D : va_G) (z tt : Nat → Nat) (a1 : Nat) (a2 : Nat) (m1 : Rw) (m2 : Rw)  (fu : Nat) (m1' : Rw) (hf : pX3_copy fu m1 m2 = some m1') : MetV l yX3_copy wsX3_copy ({ frames := 0, cells := 0, slots := 0, locals := 0 } : Room) D z tt ([.ref a1, .ref a2] : List Value) (WKet a1 m1 ++ (WKet a2 m2)) (WKet a1 m1' ++ (WKet a2 m2)) := by
  intro sz
  refine Met.ofW (cc := cX3_copy) (maxL := 2) (ret := none) (by decide) rfl ?_
  intro p e s m args below meth c s₁ B hml hv
  obtain ⟨rfl, hsz, hP, hK, hD0, hT, hN⟩ := hv
  have hx := B.exec
  have hb := B.bytes
  have hr := B.returns
  have hts : ∀ w ∈ wsA, w.before ([.ref a1, .ref a2] : List Value).toArray s = true := fun w h => atoms_spec (ws := wsX3_copy) B.pre w (List.mem_cons_of_mem _ h)
  have hown : s.vm.findClass RX3 = some m.cls := findClass_of_methodNamed B.named
  have hlocks := B.notSynchronized
  subst hsz
  have hD := hD0.self (sz := s.heap.size)
  generalize hAe : va_A (WKet a1 m1 ++ (WKet a2 m2)) s.heap.size = A at hD hT ⊢
  have hA : ∀ q : Nat, s.heap.size ≤ q → A q := fun q h => by rw [← hAe]; exact Or.inr h
  have hS : va_S A s.heap s.heap [] := va_S.rf
  have hl := lv_entry ([.ref a1, .ref a2] : List Value) (n := 2) (Nat.le_of_ble_eq_true rfl)
  rw [lg_entry_eq]
  generalize (lg_sl ([.ref a1, .ref a2] : List Value) ++ List.replicate (2 - (lg_sl ([.ref a1, .ref a2] : List Value)).length) Slot.unset).toArray = ls at hl ⊢
  have hl : lv_has ls 2 [(0, .ref a1), (1, .ref a2)] := hl
  unfold pX3_copy at hf
  refine lv_aload_n hx hb dX3_copy_0 rfl (lv_at hl 0 rfl) ?_
  refine lv_aload_n hx hb dX3_copy_1 rfl (lv_at hl 1 rfl) ?_
  refine va_get (D := D) (ci := 3) (v := .int (m2 0)) (C := RX3) (T := TX3) (N := 5) hx hb hts iX3 hown hK hP 1 rfl rfl 0 (by decide) (hts _ aw131) (fun _ h9 => h9) rfl dX3_copy_2 ?_
  refine z_put (ci := 3) (v := .int (m2 0)) (ty := .int) (C := RX3) (T := TX3) (N := 5) hx hb hts iX3 tyX3 tyX3_ok nmX3 hown hK hP hD hS 0 rfl rfl 0 (by decide) (hts _ aw131) (fun _ h9 => h9) rfl (by decide +kernel) rfl rfl (Nat.le_of_ble_eq_true rfl) dX3_copy_5 (fun (w9 : Rw) => (WKet a1 w9 ++ (WKet a2 m2))) (upd m1 0 (m2 0)) rfl (fun y1 ey1 H locs hP hD hS => ?_)
  have hf := lt_use ey1 hf
  refine lv_aload_n hx hb dX3_copy_8 rfl (lv_at hl 0 rfl) ?_
  refine lv_aload_n hx hb dX3_copy_9 rfl (lv_at hl 1 rfl) ?_
  refine va_get (D := D) (ci := 3) (v := .int (m2 1)) (C := RX3) (T := TX3) (N := 5) hx hb hts iX3 hown hK hP 1 rfl rfl 1 (by decide) (hts _ aw134) (fun _ h9 => h9) rfl dX3_copy_10 ?_
  refine z_put (ci := 3) (v := .int (m2 1)) (ty := .int) (C := RX3) (T := TX3) (N := 5) hx hb hts iX3 tyX3 tyX3_ok nmX3 hown hK hP hD hS 0 rfl rfl 1 (by decide) (hts _ aw134) (fun _ h9 => h9) rfl (by decide +kernel) rfl rfl (Nat.le_of_ble_eq_true rfl) dX3_copy_13 (fun (w9 : Rw) => (WKet a1 w9 ++ (WKet a2 m2))) (upd y1 1 (m2 1)) rfl (fun y2 ey2 H locs hP hD hS => ?_)
  have hf := lt_use ey2 hf
  refine lv_aload_n hx hb dX3_copy_16 rfl (lv_at hl 0 rfl) ?_
  refine lv_aload_n hx hb dX3_copy_17 rfl (lv_at hl 1 rfl) ?_
  refine va_get (D := D) (ci := 3) (v := .int (m2 2)) (C := RX3) (T := TX3) (N := 5) hx hb hts iX3 hown hK hP 1 rfl rfl 2 (by decide) (hts _ aw135) (fun _ h9 => h9) rfl dX3_copy_18 ?_
  refine z_put (ci := 3) (v := .int (m2 2)) (ty := .int) (C := RX3) (T := TX3) (N := 5) hx hb hts iX3 tyX3 tyX3_ok nmX3 hown hK hP hD hS 0 rfl rfl 2 (by decide) (hts _ aw135) (fun _ h9 => h9) rfl (by decide +kernel) rfl rfl (Nat.le_of_ble_eq_true rfl) dX3_copy_21 (fun (w9 : Rw) => (WKet a1 w9 ++ (WKet a2 m2))) (upd y2 2 (m2 2)) rfl (fun y3 ey3 H locs hP hD hS => ?_)
  have hf := lt_use ey3 hf
  refine lv_aload_n hx hb dX3_copy_24 rfl (lv_at hl 0 rfl) ?_
  refine lv_aload_n hx hb dX3_copy_25 rfl (lv_at hl 1 rfl) ?_
  refine va_get (D := D) (ci := 3) (v := .int (m2 3)) (C := RX3) (T := TX3) (N := 5) hx hb hts iX3 hown hK hP 1 rfl rfl 3 (by decide) (hts _ aw136) (fun _ h9 => h9) rfl dX3_copy_26 ?_
  refine z_put (ci := 3) (v := .int (m2 3)) (ty := .int) (C := RX3) (T := TX3) (N := 5) hx hb hts iX3 tyX3 tyX3_ok nmX3 hown hK hP hD hS 0 rfl rfl 3 (by decide) (hts _ aw136) (fun _ h9 => h9) rfl (by decide +kernel) rfl rfl (Nat.le_of_ble_eq_true rfl) dX3_copy_29 (fun (w9 : Rw) => (WKet a1 w9 ++ (WKet a2 m2))) (upd y3 3 (m2 3)) rfl (fun y4 ey4 H locs hP hD hS => ?_)
  have hf := lt_use ey4 hf
  refine lv_aload_n hx hb dX3_copy_32 rfl (lv_at hl 0 rfl) ?_
  refine lv_aload_n hx hb dX3_copy_33 rfl (lv_at hl 1 rfl) ?_
  refine va_get (D := D) (ci := 3) (v := .int (m2 4)) (C := RX3) (T := TX3) (N := 5) hx hb hts iX3 hown hK hP 1 rfl rfl 4 (by decide) (hts _ aw137) (fun _ h9 => h9) rfl dX3_copy_34 ?_
  refine z_put (ci := 3) (v := .int (m2 4)) (ty := .int) (C := RX3) (T := TX3) (N := 5) hx hb hts iX3 tyX3 tyX3_ok nmX3 hown hK hP hD hS 0 rfl rfl 4 (by decide) (hts _ aw137) (fun _ h9 => h9) rfl (by decide +kernel) rfl rfl (Nat.le_of_ble_eq_true rfl) dX3_copy_37 (fun (w9 : Rw) => (WKet a1 w9 ++ (WKet a2 m2))) (upd y4 4 (m2 4)) rfl (fun y5 ey5 H locs hP hD hS => ?_)
  have hf := lt_use ey5 hf
  obtain rfl := so1 hf
  exact ret_v hx hb hr hlocks hK hP hD hS dX3_copy_40
def pX3_begin (fu : Nat) (m1 : Rw) : Option Rw :=
  lt' (upd m1 0 0) fun y1 =>
  lt' (upd y1 1 0) fun y2 =>
  lt' (upd y2 2 0) fun y3 =>
  lt' (upd y3 3 0) fun y4 =>
  some y4
set_option maxHeartbeats 4000000 in
set_option maxRecDepth 100000 in
theorem tX3_begin (l : Launch) (D : va_G) (z tt : Nat → Nat) (a1 : Nat) (m1 : Rw)  (fu : Nat) (m1' : Rw) (hf : pX3_begin fu m1 = some m1') : MetV l yX3_begin wsX3_begin ({ frames := 0, cells := 0, slots := 0, locals := 0 } : Room) D z tt ([.ref a1] : List Value) (WKet a1 m1) (WKet a1 m1') := by
  intro sz
  refine Met.ofW (cc := cX3_begin) (maxL := 1) (ret := none) (by decide) rfl ?_
  intro p e s m args below meth c s₁ B hml hv
  obtain ⟨rfl, hsz, hP, hK, hD0, hT, hN⟩ := hv
  have hx := B.exec
  have hb := B.bytes
  have hr := B.returns
  have hts : ∀ w ∈ wsA, w.before ([.ref a1] : List Value).toArray s = true := fun w h => atoms_spec (ws := wsX3_begin) B.pre w (List.mem_cons_of_mem _ h)
  have hown : s.vm.findClass RX3 = some m.cls := findClass_of_methodNamed B.named
  have hlocks := B.notSynchronized
  subst hsz
  have hD := hD0.self (sz := s.heap.size)
  generalize hAe : va_A (WKet a1 m1) s.heap.size = A at hD hT ⊢
  have hA : ∀ q : Nat, s.heap.size ≤ q → A q := fun q h => by rw [← hAe]; exact Or.inr h
  have hS : va_S A s.heap s.heap [] := va_S.rf
  have hl := lv_entry ([.ref a1] : List Value) (n := 1) (Nat.le_of_ble_eq_true rfl)
  rw [lg_entry_eq]
  generalize (lg_sl ([.ref a1] : List Value) ++ List.replicate (1 - (lg_sl ([.ref a1] : List Value)).length) Slot.unset).toArray = ls at hl ⊢
  have hl : lv_has ls 1 [(0, .ref a1)] := hl
  unfold pX3_begin at hf
  refine lv_aload_n hx hb dX3_begin_0 rfl (lv_at hl 0 rfl) ?_
  refine lv_iconst (v := 0) hx hb dX3_begin_1 (by decide) ?_
  refine z_put (ci := 3) (v := .int 0) (ty := .int) (C := RX3) (T := TX3) (N := 5) hx hb hts iX3 tyX3 tyX3_ok nmX3 hown hK hP hD hS 0 rfl rfl 0 (by decide) (hts _ aw131) (fun _ h9 => h9) rfl (by decide +kernel) rfl rfl (Nat.le_of_ble_eq_true rfl) dX3_begin_2 (fun (w9 : Rw) => (WKet a1 w9)) (upd m1 0 0) rfl (fun y1 ey1 H locs hP hD hS => ?_)
  have hf := lt_use ey1 hf
  refine lv_aload_n hx hb dX3_begin_5 rfl (lv_at hl 0 rfl) ?_
  refine lv_iconst (v := 0) hx hb dX3_begin_6 (by decide) ?_
  refine z_put (ci := 3) (v := .int 0) (ty := .int) (C := RX3) (T := TX3) (N := 5) hx hb hts iX3 tyX3 tyX3_ok nmX3 hown hK hP hD hS 0 rfl rfl 1 (by decide) (hts _ aw134) (fun _ h9 => h9) rfl (by decide +kernel) rfl rfl (Nat.le_of_ble_eq_true rfl) dX3_begin_7 (fun (w9 : Rw) => (WKet a1 w9)) (upd y1 1 0) rfl (fun y2 ey2 H locs hP hD hS => ?_)
  have hf := lt_use ey2 hf
  refine lv_aload_n hx hb dX3_begin_10 rfl (lv_at hl 0 rfl) ?_
  refine lv_iconst (v := 0) hx hb dX3_begin_11 (by decide) ?_
  refine z_put (ci := 3) (v := .int 0) (ty := .int) (C := RX3) (T := TX3) (N := 5) hx hb hts iX3 tyX3 tyX3_ok nmX3 hown hK hP hD hS 0 rfl rfl 2 (by decide) (hts _ aw135) (fun _ h9 => h9) rfl (by decide +kernel) rfl rfl (Nat.le_of_ble_eq_true rfl) dX3_begin_12 (fun (w9 : Rw) => (WKet a1 w9)) (upd y2 2 0) rfl (fun y3 ey3 H locs hP hD hS => ?_)
  have hf := lt_use ey3 hf
  refine lv_aload_n hx hb dX3_begin_15 rfl (lv_at hl 0 rfl) ?_
  refine lv_iconst (v := 0) hx hb dX3_begin_16 (by decide) ?_
  refine z_put (ci := 3) (v := .int 0) (ty := .int) (C := RX3) (T := TX3) (N := 5) hx hb hts iX3 tyX3 tyX3_ok nmX3 hown hK hP hD hS 0 rfl rfl 3 (by decide) (hts _ aw136) (fun _ h9 => h9) rfl (by decide +kernel) rfl rfl (Nat.le_of_ble_eq_true rfl) dX3_begin_17 (fun (w9 : Rw) => (WKet a1 w9)) (upd y3 3 0) rfl (fun y4 ey4 H locs hP hD hS => ?_)
  have hf := lt_use ey4 hf
  obtain rfl := so1 hf
  exact ret_v hx hb hr hlocks hK hP hD hS dX3_begin_20
def pX3_isFree (fu : Nat) (m1 : Rw) (p1 : Int32) : Option Int32 :=
  if p1 < (m1 3) then
    some 0
  else
    some 1
set_option maxHeartbeats 4000000 in
set_option maxRecDepth 100000 in
theorem tX3_isFree (l : Launch) (D : va_G) (z tt : Nat → Nat) (a1 : Nat) (m1 : Rw) (p1 : Int32) (fu : Nat) (rr : Int32) (hf : pX3_isFree fu m1 p1 = some rr) : MetI l yX3_isFree wsX3_isFree ({ frames := 0, cells := 0, slots := 0, locals := 0 } : Room) D z tt ([.ref a1, .int p1] : List Value) (WKet a1 m1) rr (WKet a1 m1) := by
  intro sz
  refine Met.ofW (cc := cX3_isFree) (maxL := 2) (ret := (some .boolean)) (by decide) rfl ?_
  intro p e s m args below meth c s₁ B hml hv
  obtain ⟨rfl, hsz, hP, hK, hD0, hT, hN⟩ := hv
  have hx := B.exec
  have hb := B.bytes
  have hr := B.returns
  have hts : ∀ w ∈ wsA, w.before ([.ref a1, .int p1] : List Value).toArray s = true := fun w h => atoms_spec (ws := wsX3_isFree) B.pre w (List.mem_cons_of_mem _ h)
  have hown : s.vm.findClass RX3 = some m.cls := findClass_of_methodNamed B.named
  have hlocks := B.notSynchronized
  subst hsz
  have hD := hD0.self (sz := s.heap.size)
  generalize hAe : va_A (WKet a1 m1) s.heap.size = A at hD hT ⊢
  have hA : ∀ q : Nat, s.heap.size ≤ q → A q := fun q h => by rw [← hAe]; exact Or.inr h
  have hS : va_S A s.heap s.heap [] := va_S.rf
  have hl := lv_entry ([.ref a1, .int p1] : List Value) (n := 2) (Nat.le_of_ble_eq_true rfl)
  rw [lg_entry_eq]
  generalize (lg_sl ([.ref a1, .int p1] : List Value) ++ List.replicate (2 - (lg_sl ([.ref a1, .int p1] : List Value)).length) Slot.unset).toArray = ls at hl ⊢
  have hl : lv_has ls 2 [(0, .ref a1), (1, .int p1)] := hl
  unfold pX3_isFree at hf
  refine lv_aload_n hx hb dX3_isFree_0 rfl (lv_at hl 0 rfl) ?_
  refine va_get (D := D) (ci := 3) (v := .int (m1 3)) (C := RX3) (T := TX3) (N := 5) hx hb hts iX3 hown hK hP 0 rfl rfl 3 (by decide) (hts _ aw136) (fun _ h9 => h9) rfl dX3_isFree_1 ?_
  refine lv_iload_n hx hb dX3_isFree_4 rfl (lv_at hl 1 rfl) ?_
  refine lv_icmp_gt (tgt := 12) hx hb dX3_isFree_5 (by decide) (fun c1 => ?_) (fun c1 => ?_)
  · have hf := if_t c1 hf
    refine lv_iconst (v := 0) hx hb dX3_isFree_12 (by decide) ?_
    obtain rfl := so1 hf
    exact ret_z hx hb hr hlocks hK hP hD hS (by decide) dX3_isFree_13
  · have hf := if_f c1 hf
    refine lv_iconst (v := 1) hx hb dX3_isFree_8 (by decide) ?_
    refine lv_goto (tgt := 13) hx hb dX3_isFree_9 (by decide) ?_
    obtain rfl := so1 hf
    exact ret_z hx hb hr hlocks hK hP hD hS (by decide) dX3_isFree_13
def pX3_isReady (fu : Nat) (m1 : Rw) (p1 : Int32) (p2 : Int32) : Option Int32 :=
  if p1 < (m1 3) then
    some 0
  else
    if (m1 1) < 8 then
      some 0
    else
      if (m1 0) < p2 then
        some 0
      else
        some 1
set_option maxHeartbeats 4000000 in
set_option maxRecDepth 100000 in
theorem tX3_isReady (l : Launch) (D : va_G) (z tt : Nat → Nat) (a1 : Nat) (m1 : Rw) (p1 : Int32) (p2 : Int32) (fu : Nat) (rr : Int32) (hf : pX3_isReady fu m1 p1 p2 = some rr) : MetI l yX3_isReady wsX3_isReady ({ frames := 0, cells := 0, slots := 0, locals := 0 } : Room) D z tt ([.ref a1, .int p1, .int p2] : List Value) (WKet a1 m1) rr (WKet a1 m1) := by
  intro sz
  refine Met.ofW (cc := cX3_isReady) (maxL := 3) (ret := (some .boolean)) (by decide) rfl ?_
  intro p e s m args below meth c s₁ B hml hv
  obtain ⟨rfl, hsz, hP, hK, hD0, hT, hN⟩ := hv
  have hx := B.exec
  have hb := B.bytes
  have hr := B.returns
  have hts : ∀ w ∈ wsA, w.before ([.ref a1, .int p1, .int p2] : List Value).toArray s = true := fun w h => atoms_spec (ws := wsX3_isReady) B.pre w (List.mem_cons_of_mem _ h)
  have hown : s.vm.findClass RX3 = some m.cls := findClass_of_methodNamed B.named
  have hlocks := B.notSynchronized
  subst hsz
  have hD := hD0.self (sz := s.heap.size)
  generalize hAe : va_A (WKet a1 m1) s.heap.size = A at hD hT ⊢
  have hA : ∀ q : Nat, s.heap.size ≤ q → A q := fun q h => by rw [← hAe]; exact Or.inr h
  have hS : va_S A s.heap s.heap [] := va_S.rf
  have hl := lv_entry ([.ref a1, .int p1, .int p2] : List Value) (n := 3) (Nat.le_of_ble_eq_true rfl)
  rw [lg_entry_eq]
  generalize (lg_sl ([.ref a1, .int p1, .int p2] : List Value) ++ List.replicate (3 - (lg_sl ([.ref a1, .int p1, .int p2] : List Value)).length) Slot.unset).toArray = ls at hl ⊢
  have hl : lv_has ls 3 [(0, .ref a1), (1, .int p1), (2, .int p2)] := hl
  unfold pX3_isReady at hf
  refine lv_aload_n hx hb dX3_isReady_0 rfl (lv_at hl 0 rfl) ?_
  refine va_get (D := D) (ci := 3) (v := .int (m1 3)) (C := RX3) (T := TX3) (N := 5) hx hb hts iX3 hown hK hP 0 rfl rfl 3 (by decide) (hts _ aw136) (fun _ h9 => h9) rfl dX3_isReady_1 ?_
  refine lv_iload_n hx hb dX3_isReady_4 rfl (lv_at hl 1 rfl) ?_
  refine lv_icmp_gt (tgt := 29) hx hb dX3_isReady_5 (by decide) (fun c1 => ?_) (fun c1 => ?_)
  · have hf := if_t c1 hf
    refine lv_iconst (v := 0) hx hb dX3_isReady_29 (by decide) ?_
    obtain rfl := so1 hf
    exact ret_z hx hb hr hlocks hK hP hD hS (by decide) dX3_isReady_30
  · have hf := if_f c1 hf
    refine lv_aload_n hx hb dX3_isReady_8 rfl (lv_at hl 0 rfl) ?_
    refine va_get (D := D) (ci := 3) (v := .int (m1 1)) (C := RX3) (T := TX3) (N := 5) hx hb hts iX3 hown hK hP 0 rfl rfl 1 (by decide) (hts _ aw134) (fun _ h9 => h9) rfl dX3_isReady_9 ?_
    refine lv_bipush (v := 8) hx hb dX3_isReady_12 (by decide) ?_
    refine lv_icmp_lt (tgt := 29) hx hb dX3_isReady_14 (by decide) (fun c2 => ?_) (fun c2 => ?_)
    · have hf := if_t c2 hf
      refine lv_iconst (v := 0) hx hb dX3_isReady_29 (by decide) ?_
      obtain rfl := so1 hf
      exact ret_z hx hb hr hlocks hK hP hD hS (by decide) dX3_isReady_30
    · have hf := if_f c2 hf
      refine lv_aload_n hx hb dX3_isReady_17 rfl (lv_at hl 0 rfl) ?_
      refine va_get (D := D) (ci := 3) (v := .int (m1 0)) (C := RX3) (T := TX3) (N := 5) hx hb hts iX3 hown hK hP 0 rfl rfl 0 (by decide) (hts _ aw131) (fun _ h9 => h9) rfl dX3_isReady_18 ?_
      refine lv_iload_n hx hb dX3_isReady_21 rfl (lv_at hl 2 rfl) ?_
      refine lv_icmp_lt (tgt := 29) hx hb dX3_isReady_22 (by decide) (fun c3 => ?_) (fun c3 => ?_)
      · have hf := if_t c3 hf
        refine lv_iconst (v := 0) hx hb dX3_isReady_29 (by decide) ?_
        obtain rfl := so1 hf
        exact ret_z hx hb hr hlocks hK hP hD hS (by decide) dX3_isReady_30
      · have hf := if_f c3 hf
        refine lv_iconst (v := 1) hx hb dX3_isReady_25 (by decide) ?_
        refine lv_goto (tgt := 30) hx hb dX3_isReady_26 (by decide) ?_
        obtain rfl := so1 hf
        exact ret_z hx hb hr hlocks hK hP hD hS (by decide) dX3_isReady_30
def pX3_fill (fu : Nat) (m1 : Rw) (p1 : Int32) : Option Rw :=
  if p1 ≤ 0 then
    some m1
  else
    ckn p1 <|
    lt' (upd m1 1 (((m1 0) * (m1 1)) / p1)) fun y3 =>
    lt' (upd y3 0 p1) fun y4 =>
    some y4
set_option maxHeartbeats 4000000 in
set_option maxRecDepth 100000 in
theorem tX3_fill (l : Launch) (D : va_G) (z tt : Nat → Nat) (a1 : Nat) (m1 : Rw) (p1 : Int32) (fu : Nat) (m1' : Rw) (hf : pX3_fill fu m1 p1 = some m1') : MetV l yX3_fill wsX3_fill ({ frames := 0, cells := 0, slots := 0, locals := 0 } : Room) D z tt ([.ref a1, .int p1] : List Value) (WKet a1 m1) (WKet a1 m1') := by
  intro sz
  refine Met.ofW (cc := cX3_fill) (maxL := 2) (ret := none) (by decide) rfl ?_
  intro p e s m args below meth c s₁ B hml hv
  obtain ⟨rfl, hsz, hP, hK, hD0, hT, hN⟩ := hv
  have hx := B.exec
  have hb := B.bytes
  have hr := B.returns
  have hts : ∀ w ∈ wsA, w.before ([.ref a1, .int p1] : List Value).toArray s = true := fun w h => atoms_spec (ws := wsX3_fill) B.pre w (List.mem_cons_of_mem _ h)
  have hown : s.vm.findClass RX3 = some m.cls := findClass_of_methodNamed B.named
  have hlocks := B.notSynchronized
  subst hsz
  have hD := hD0.self (sz := s.heap.size)
  generalize hAe : va_A (WKet a1 m1) s.heap.size = A at hD hT ⊢
  have hA : ∀ q : Nat, s.heap.size ≤ q → A q := fun q h => by rw [← hAe]; exact Or.inr h
  have hS : va_S A s.heap s.heap [] := va_S.rf
  have hl := lv_entry ([.ref a1, .int p1] : List Value) (n := 2) (Nat.le_of_ble_eq_true rfl)
  rw [lg_entry_eq]
  generalize (lg_sl ([.ref a1, .int p1] : List Value) ++ List.replicate (2 - (lg_sl ([.ref a1, .int p1] : List Value)).length) Slot.unset).toArray = ls at hl ⊢
  have hl : lv_has ls 2 [(0, .ref a1), (1, .int p1)] := hl
  unfold pX3_fill at hf
  refine lv_iload_n hx hb dX3_fill_0 rfl (lv_at hl 1 rfl) ?_
  refine lv_if_le (tgt := 24) hx hb dX3_fill_1 (by decide) (fun c1 => ?_) (fun c1 => ?_)
  · have hf := if_t c1 hf
    obtain rfl := so1 hf
    exact ret_v hx hb hr hlocks hK hP hD hS dX3_fill_24
  · have hf := if_f c1 hf
    refine lv_aload_n hx hb dX3_fill_4 rfl (lv_at hl 0 rfl) ?_
    refine lv_aload_n hx hb dX3_fill_5 rfl (lv_at hl 0 rfl) ?_
    refine va_get (D := D) (ci := 3) (v := .int (m1 0)) (C := RX3) (T := TX3) (N := 5) hx hb hts iX3 hown hK hP 0 rfl rfl 0 (by decide) (hts _ aw131) (fun _ h9 => h9) rfl dX3_fill_6 ?_
    refine lv_aload_n hx hb dX3_fill_9 rfl (lv_at hl 0 rfl) ?_
    refine va_get (D := D) (ci := 3) (v := .int (m1 1)) (C := RX3) (T := TX3) (N := 5) hx hb hts iX3 hown hK hP 0 rfl rfl 1 (by decide) (hts _ aw134) (fun _ h9 => h9) rfl dX3_fill_10 ?_
    refine lv_imul hx hb dX3_fill_13 ?_
    refine lv_iload_n hx hb dX3_fill_14 rfl (lv_at hl 1 rfl) ?_
    obtain ⟨h2, hf⟩ := ckn_use hf
    refine lv_idiv hx hb dX3_fill_15 h2 ?_
    refine z_put (ci := 3) (v := .int (((m1 0) * (m1 1)) / p1)) (ty := .int) (C := RX3) (T := TX3) (N := 5) hx hb hts iX3 tyX3 tyX3_ok nmX3 hown hK hP hD hS 0 rfl rfl 1 (by decide) (hts _ aw134) (fun _ h9 => h9) rfl (by decide +kernel) rfl rfl (Nat.le_of_ble_eq_true rfl) dX3_fill_16 (fun (w9 : Rw) => (WKet a1 w9)) (upd m1 1 (((m1 0) * (m1 1)) / p1)) rfl (fun y3 ey3 H locs hP hD hS => ?_)
    have hf := lt_use ey3 hf
    refine lv_aload_n hx hb dX3_fill_19 rfl (lv_at hl 0 rfl) ?_
    refine lv_iload_n hx hb dX3_fill_20 rfl (lv_at hl 1 rfl) ?_
    refine z_put (ci := 3) (v := .int p1) (ty := .int) (C := RX3) (T := TX3) (N := 5) hx hb hts iX3 tyX3 tyX3_ok nmX3 hown hK hP hD hS 0 rfl rfl 0 (by decide) (hts _ aw131) (fun _ h9 => h9) rfl (by decide +kernel) rfl rfl (Nat.le_of_ble_eq_true rfl) dX3_fill_21 (fun (w9 : Rw) => (WKet a1 w9)) (upd y3 0 p1) rfl (fun y4 ey4 H locs hP hD hS => ?_)
    have hf := lt_use ey4 hf
    obtain rfl := so1 hf
    exact ret_v hx hb hr hlocks hK hP hD hS dX3_fill_24
def pX6_heatingMinutes (fu : Nat) (p1 : Int32) (p2 : Int32) (p3 : Int32) : Option Int32 :=
  lt' (((p1 * p2) * p3) : Int32) fun x1 =>
  if x1 ≤ 0 then
    some 1
  else
    some ((x1 + 99) / 100)
set_option maxHeartbeats 4000000 in
set_option maxRecDepth 100000 in
theorem tX6_heatingMinutes (l : Launch) (D : va_G) (z tt : Nat → Nat)   (p1 : Int32) (p2 : Int32) (p3 : Int32) (fu : Nat) (rr : Int32) (hf : pX6_heatingMinutes fu p1 p2 p3 = some rr) : MetI l yX6_heatingMinutes wsX6_heatingMinutes ({ frames := 0, cells := 0, slots := 0, locals := 0 } : Room) D z tt ([.int p1, .int p2, .int p3] : List Value) ([] : va_W) rr ([] : va_W) := by
  intro sz
  refine Met.ofW (cc := cX6_heatingMinutes) (maxL := 4) (ret := (some .int)) (by decide) rfl ?_
  intro p e s m args below meth c s₁ B hml hv
  obtain ⟨rfl, hsz, hP, hK, hD0, hT, hN⟩ := hv
  have hx := B.exec
  have hb := B.bytes
  have hr := B.returns
  have hts : ∀ w ∈ wsA, w.before ([.int p1, .int p2, .int p3] : List Value).toArray s = true := fun w h => atoms_spec (ws := wsX6_heatingMinutes) B.pre w (List.mem_cons_of_mem _ h)
  have hown : s.vm.findClass RX6 = some m.cls := findClass_of_methodNamed B.named
  have hlocks := B.notSynchronized
  subst hsz
  have hD := hD0.self (sz := s.heap.size)
  generalize hAe : va_A ([] : va_W) s.heap.size = A at hD hT ⊢
  have hA : ∀ q : Nat, s.heap.size ≤ q → A q := fun q h => by rw [← hAe]; exact Or.inr h
  have hS : va_S A s.heap s.heap [] := va_S.rf
  have hl := lv_entry ([.int p1, .int p2, .int p3] : List Value) (n := 4) (Nat.le_of_ble_eq_true rfl)
  rw [lg_entry_eq]
  generalize (lg_sl ([.int p1, .int p2, .int p3] : List Value) ++ List.replicate (4 - (lg_sl ([.int p1, .int p2, .int p3] : List Value)).length) Slot.unset).toArray = ls at hl ⊢
  have hl : lv_has ls 4 [(0, .int p1), (1, .int p2), (2, .int p3)] := hl
  unfold pX6_heatingMinutes at hf
  refine lv_iload_n hx hb dX6_heatingMinutes_0 rfl (lv_at hl 0 rfl) ?_
  refine lv_iload_n hx hb dX6_heatingMinutes_1 rfl (lv_at hl 1 rfl) ?_
  refine lv_imul hx hb dX6_heatingMinutes_2 ?_
  refine lv_iload_n hx hb dX6_heatingMinutes_3 rfl (lv_at hl 2 rfl) ?_
  refine lv_imul hx hb dX6_heatingMinutes_4 ?_
  refine lv_topi (fun x1 ex1 => ?_)
  have hf := lt_use ex1 hf
  refine lv_istore_n (lv' := [(3, .int x1), (0, .int p1), (1, .int p2), (2, .int p3)]) hx hb dX6_heatingMinutes_5 rfl hl (by decide) rfl (fun ls hl => ?_)
  refine lv_iload_n hx hb dX6_heatingMinutes_6 rfl (lv_at hl 0 rfl) ?_
  refine lv_if_le (tgt := 20) hx hb dX6_heatingMinutes_7 (by decide) (fun c2 => ?_) (fun c2 => ?_)
  · have hf := if_t c2 hf
    refine lv_iconst (v := 1) hx hb dX6_heatingMinutes_20 (by decide) ?_
    obtain rfl := so1 hf
    exact ret_i hx hb hr hlocks hK hP hD hS dX6_heatingMinutes_21
  · have hf := if_f c2 hf
    refine lv_iload_n hx hb dX6_heatingMinutes_10 rfl (lv_at hl 0 rfl) ?_
    refine lv_bipush (v := 99) hx hb dX6_heatingMinutes_11 (by decide) ?_
    refine lv_iadd hx hb dX6_heatingMinutes_13 ?_
    refine lv_bipush (v := 100) hx hb dX6_heatingMinutes_14 (by decide) ?_
    refine lv_idiv hx hb dX6_heatingMinutes_16 (by decide) ?_
    refine lv_goto (tgt := 21) hx hb dX6_heatingMinutes_17 (by decide) ?_
    obtain rfl := so1 hf
    exact ret_i hx hb hr hlocks hK hP hD hS dX6_heatingMinutes_21
def pX3_putOn (fu : Nat) (m1 : Rw) (p1 : Int32) (p2 : Int32) (p3 : Int32) : Option Rw :=
  bd (pX6_heatingMinutes fu (m1 0) (10 - (m1 1)) p3) fun r1 =>
  lt' (upd m1 3 (p2 + r1)) fun y3 =>
  lt' (upd y3 1 10) fun y4 =>
  lt' (upd y4 2 0) fun y5 =>
  lt' (upd y5 4 p1) fun y6 =>
  some y6
set_option maxHeartbeats 4000000 in
set_option maxRecDepth 100000 in
theorem tX3_putOn (l : Launch) (D : va_G) (z tt : Nat → Nat) (a1 : Nat) (m1 : Rw) (p1 : Int32) (p2 : Int32) (p3 : Int32) (fu : Nat) (m1' : Rw) (hf : pX3_putOn fu m1 p1 p2 p3 = some m1') : MetV l yX3_putOn wsX3_putOn ({ frames := 1, cells := 0, slots := 0, locals := 23 } : Room) D z tt ([.ref a1, .int p1, .int p2, .int p3] : List Value) (WKet a1 m1) (WKet a1 m1') := by
  intro sz
  refine Met.ofW (cc := cX3_putOn) (maxL := 4) (ret := none) (by decide) rfl ?_
  intro p e s m args below meth c s₁ B hml hv
  obtain ⟨rfl, hsz, hP, hK, hD0, hT, hN⟩ := hv
  have hx := B.exec
  have hb := B.bytes
  have hr := B.returns
  have hts : ∀ w ∈ wsA, w.before ([.ref a1, .int p1, .int p2, .int p3] : List Value).toArray s = true := fun w h => atoms_spec (ws := wsX3_putOn) B.pre w (List.mem_cons_of_mem _ h)
  have hown : s.vm.findClass RX3 = some m.cls := findClass_of_methodNamed B.named
  have hlocks := B.notSynchronized
  subst hsz
  have hD := hD0.self (sz := s.heap.size)
  generalize hAe : va_A (WKet a1 m1) s.heap.size = A at hD hT ⊢
  have hA : ∀ q : Nat, s.heap.size ≤ q → A q := fun q h => by rw [← hAe]; exact Or.inr h
  have hS : va_S A s.heap s.heap [] := va_S.rf
  have hl := lv_entry ([.ref a1, .int p1, .int p2, .int p3] : List Value) (n := 4) (Nat.le_of_ble_eq_true rfl)
  rw [lg_entry_eq]
  generalize (lg_sl ([.ref a1, .int p1, .int p2, .int p3] : List Value) ++ List.replicate (4 - (lg_sl ([.ref a1, .int p1, .int p2, .int p3] : List Value)).length) Slot.unset).toArray = ls at hl ⊢
  have hl : lv_has ls 4 [(0, .ref a1), (1, .int p1), (2, .int p2), (3, .int p3)] := hl
  unfold pX3_putOn at hf
  refine lv_aload_n hx hb dX3_putOn_0 rfl (lv_at hl 0 rfl) ?_
  refine lv_iload_n hx hb dX3_putOn_1 rfl (lv_at hl 2 rfl) ?_
  refine lv_aload_n hx hb dX3_putOn_2 rfl (lv_at hl 0 rfl) ?_
  refine va_get (D := D) (ci := 3) (v := .int (m1 0)) (C := RX3) (T := TX3) (N := 5) hx hb hts iX3 hown hK hP 0 rfl rfl 0 (by decide) (hts _ aw131) (fun _ h9 => h9) rfl dX3_putOn_3 ?_
  refine lv_bipush (v := 10) hx hb dX3_putOn_6 (by decide) ?_
  refine lv_aload_n hx hb dX3_putOn_8 rfl (lv_at hl 0 rfl) ?_
  refine va_get (D := D) (ci := 3) (v := .int (m1 1)) (C := RX3) (T := TX3) (N := 5) hx hb hts iX3 hown hK hP 0 rfl rfl 1 (by decide) (hts _ aw134) (fun _ h9 => h9) rfl dX3_putOn_9 ?_
  refine lv_isub hx hb dX3_putOn_12 ?_
  refine lv_iload_n hx hb dX3_putOn_13 rfl (lv_at hl 3 rfl) ?_
  obtain ⟨r1, q2, hf⟩ := bd_use hf
  have hfo : Foc (WKet a1 m1) ([] : va_W) (WKet a1 m1) ([] : va_W) := foc_nil
  refine z_goI (ws1 := (WKet a1 m1)) (va_runSN (As := [.int (m1 0), .int (10 - (m1 1)), .int p3]) (rest := [.int p2, .ref a1]) ⟨hx, hb, hml, hown, hts⟩ (tX6_heatingMinutes l D z tt  (m1 0) (10 - (m1 1)) p3 fu r1 q2 _) ⟨va_cnB 3 hts (gC1 aw494) rfl rfl rfl hN.2.1 (hts _ aw45) (by decide +kernel) ⟨Nat.le_of_ble_eq_true rfl, Nat.le_of_ble_eq_true rfl⟩, (hts _ aw493), trivial⟩ (z_preS hK hP hD hS hA hT hN hfo) rfl rfl hl.1 rfl (lv_room (Nat.le_of_ble_eq_true rfl)) dX3_putOn_14 ⟨Nat.zero_le _, Nat.zero_le _⟩) hP hD hS hA hfo (fun H locs hP hD hS => ?_)
  refine lv_iadd hx hb dX3_putOn_17 ?_
  refine z_put (ci := 3) (v := .int (p2 + r1)) (ty := .int) (C := RX3) (T := TX3) (N := 5) hx hb hts iX3 tyX3 tyX3_ok nmX3 hown hK hP hD hS 0 rfl rfl 3 (by decide) (hts _ aw136) (fun _ h9 => h9) rfl (by decide +kernel) rfl rfl (Nat.le_of_ble_eq_true rfl) dX3_putOn_18 (fun (w9 : Rw) => (WKet a1 w9)) (upd m1 3 (p2 + r1)) rfl (fun y3 ey3 H locs hP hD hS => ?_)
  have hf := lt_use ey3 hf
  refine lv_aload_n hx hb dX3_putOn_21 rfl (lv_at hl 0 rfl) ?_
  refine lv_bipush (v := 10) hx hb dX3_putOn_22 (by decide) ?_
  refine z_put (ci := 3) (v := .int 10) (ty := .int) (C := RX3) (T := TX3) (N := 5) hx hb hts iX3 tyX3 tyX3_ok nmX3 hown hK hP hD hS 0 rfl rfl 1 (by decide) (hts _ aw134) (fun _ h9 => h9) rfl (by decide +kernel) rfl rfl (Nat.le_of_ble_eq_true rfl) dX3_putOn_24 (fun (w9 : Rw) => (WKet a1 w9)) (upd y3 1 10) rfl (fun y4 ey4 H locs hP hD hS => ?_)
  have hf := lt_use ey4 hf
  refine lv_aload_n hx hb dX3_putOn_27 rfl (lv_at hl 0 rfl) ?_
  refine lv_iconst (v := 0) hx hb dX3_putOn_28 (by decide) ?_
  refine z_put (ci := 3) (v := .int 0) (ty := .int) (C := RX3) (T := TX3) (N := 5) hx hb hts iX3 tyX3 tyX3_ok nmX3 hown hK hP hD hS 0 rfl rfl 2 (by decide) (hts _ aw135) (fun _ h9 => h9) rfl (by decide +kernel) rfl rfl (Nat.le_of_ble_eq_true rfl) dX3_putOn_29 (fun (w9 : Rw) => (WKet a1 w9)) (upd y4 2 0) rfl (fun y5 ey5 H locs hP hD hS => ?_)
  have hf := lt_use ey5 hf
  refine lv_aload_n hx hb dX3_putOn_32 rfl (lv_at hl 0 rfl) ?_
  refine lv_iload_n hx hb dX3_putOn_33 rfl (lv_at hl 1 rfl) ?_
  refine z_put (ci := 3) (v := .int p1) (ty := .int) (C := RX3) (T := TX3) (N := 5) hx hb hts iX3 tyX3 tyX3_ok nmX3 hown hK hP hD hS 0 rfl rfl 4 (by decide) (hts _ aw137) (fun _ h9 => h9) rfl (by decide +kernel) rfl rfl (Nat.le_of_ble_eq_true rfl) dX3_putOn_34 (fun (w9 : Rw) => (WKet a1 w9)) (upd y5 4 p1) rfl (fun y6 ey6 H locs hP hD hS => ?_)
  have hf := lt_use ey6 hf
  obtain rfl := so1 hf
  exact ret_v hx hb hr hlocks hK hP hD hS dX3_putOn_37
def pX3_cool (fu : Nat) (m1 : Rw) (p1 : Int32) : Option Rw :=
  lt' (upd m1 2 ((m1 2) + 1)) fun y1 =>
  if (y1 2) < p1 then
    some y1
  else
    lt' (upd y1 1 (imax 0 ((y1 1) - 1))) fun y3 =>
    lt' (upd y3 2 0) fun y4 =>
    some y4
set_option maxHeartbeats 4000000 in
set_option maxRecDepth 100000 in
theorem tX3_cool (l : Launch) (D : va_G) (z tt : Nat → Nat) (a1 : Nat) (m1 : Rw) (p1 : Int32) (fu : Nat) (m1' : Rw) (hf : pX3_cool fu m1 p1 = some m1') : MetV l yX3_cool wsX3_cool ({ frames := 1, cells := 0, slots := 0, locals := 17 } : Room) D z tt ([.ref a1, .int p1] : List Value) (WKet a1 m1) (WKet a1 m1') := by
  intro sz
  refine Met.ofW (cc := cX3_cool) (maxL := 2) (ret := none) (by decide) rfl ?_
  intro p e s m args below meth c s₁ B hml hv
  obtain ⟨rfl, hsz, hP, hK, hD0, hT, hN⟩ := hv
  have hx := B.exec
  have hb := B.bytes
  have hr := B.returns
  have hts : ∀ w ∈ wsA, w.before ([.ref a1, .int p1] : List Value).toArray s = true := fun w h => atoms_spec (ws := wsX3_cool) B.pre w (List.mem_cons_of_mem _ h)
  have hown : s.vm.findClass RX3 = some m.cls := findClass_of_methodNamed B.named
  have hlocks := B.notSynchronized
  subst hsz
  have hD := hD0.self (sz := s.heap.size)
  generalize hAe : va_A (WKet a1 m1) s.heap.size = A at hD hT ⊢
  have hA : ∀ q : Nat, s.heap.size ≤ q → A q := fun q h => by rw [← hAe]; exact Or.inr h
  have hS : va_S A s.heap s.heap [] := va_S.rf
  have hl := lv_entry ([.ref a1, .int p1] : List Value) (n := 2) (Nat.le_of_ble_eq_true rfl)
  rw [lg_entry_eq]
  generalize (lg_sl ([.ref a1, .int p1] : List Value) ++ List.replicate (2 - (lg_sl ([.ref a1, .int p1] : List Value)).length) Slot.unset).toArray = ls at hl ⊢
  have hl : lv_has ls 2 [(0, .ref a1), (1, .int p1)] := hl
  unfold pX3_cool at hf
  refine lv_aload_n hx hb dX3_cool_0 rfl (lv_at hl 0 rfl) ?_
  refine lv_dup hx hb dX3_cool_1 rfl ?_
  refine va_get (D := D) (ci := 3) (v := .int (m1 2)) (C := RX3) (T := TX3) (N := 5) hx hb hts iX3 hown hK hP 0 rfl rfl 2 (by decide) (hts _ aw135) (fun _ h9 => h9) rfl dX3_cool_2 ?_
  refine lv_iconst (v := 1) hx hb dX3_cool_5 (by decide) ?_
  refine lv_iadd hx hb dX3_cool_6 ?_
  refine z_put (ci := 3) (v := .int ((m1 2) + 1)) (ty := .int) (C := RX3) (T := TX3) (N := 5) hx hb hts iX3 tyX3 tyX3_ok nmX3 hown hK hP hD hS 0 rfl rfl 2 (by decide) (hts _ aw135) (fun _ h9 => h9) rfl (by decide +kernel) rfl rfl (Nat.le_of_ble_eq_true rfl) dX3_cool_7 (fun (w9 : Rw) => (WKet a1 w9)) (upd m1 2 ((m1 2) + 1)) rfl (fun y1 ey1 H locs hP hD hS => ?_)
  have hf := lt_use ey1 hf
  refine lv_aload_n hx hb dX3_cool_10 rfl (lv_at hl 0 rfl) ?_
  refine va_get (D := D) (ci := 3) (v := .int (y1 2)) (C := RX3) (T := TX3) (N := 5) hx hb hts iX3 hown hK hP 0 rfl rfl 2 (by decide) (hts _ aw135) (fun _ h9 => h9) rfl dX3_cool_11 ?_
  refine lv_iload_n hx hb dX3_cool_14 rfl (lv_at hl 1 rfl) ?_
  refine lv_icmp_lt (tgt := 37) hx hb dX3_cool_15 (by decide) (fun c2 => ?_) (fun c2 => ?_)
  · have hf := if_t c2 hf
    obtain rfl := so1 hf
    exact ret_v hx hb hr hlocks hK hP hD hS dX3_cool_37
  · have hf := if_f c2 hf
    refine lv_aload_n hx hb dX3_cool_18 rfl (lv_at hl 0 rfl) ?_
    refine lv_iconst (v := 0) hx hb dX3_cool_19 (by decide) ?_
    refine lv_aload_n hx hb dX3_cool_20 rfl (lv_at hl 0 rfl) ?_
    refine va_get (D := D) (ci := 3) (v := .int (y1 1)) (C := RX3) (T := TX3) (N := 5) hx hb hts iX3 hown hK hP 0 rfl rfl 1 (by decide) (hts _ aw134) (fun _ h9 => h9) rfl dX3_cool_21 ?_
    refine lv_iconst (v := 1) hx hb dX3_cool_24 (by decide) ?_
    refine lv_isub hx hb dX3_cool_25 ?_
    refine z_max hx hb (by rw [hml]; exact hl.1.symm) hown (hts _ aw411) (hts _ aw352) (hts _ aw54) (hts _ aw353) (Nat.le_of_ble_eq_true rfl) (Nat.le_of_ble_eq_true rfl) dX3_cool_26 (Nat.zero_le _) (Nat.zero_le _) ?_
    refine z_put (ci := 3) (v := .int (imax 0 ((y1 1) - 1))) (ty := .int) (C := RX3) (T := TX3) (N := 5) hx hb hts iX3 tyX3 tyX3_ok nmX3 hown hK hP hD hS 0 rfl rfl 1 (by decide) (hts _ aw134) (fun _ h9 => h9) rfl (by decide +kernel) rfl rfl (Nat.le_of_ble_eq_true rfl) dX3_cool_29 (fun (w9 : Rw) => (WKet a1 w9)) (upd y1 1 (imax 0 ((y1 1) - 1))) rfl (fun y3 ey3 H locs hP hD hS => ?_)
    have hf := lt_use ey3 hf
    refine lv_aload_n hx hb dX3_cool_32 rfl (lv_at hl 0 rfl) ?_
    refine lv_iconst (v := 0) hx hb dX3_cool_33 (by decide) ?_
    refine z_put (ci := 3) (v := .int 0) (ty := .int) (C := RX3) (T := TX3) (N := 5) hx hb hts iX3 tyX3 tyX3_ok nmX3 hown hK hP hD hS 0 rfl rfl 2 (by decide) (hts _ aw135) (fun _ h9 => h9) rfl (by decide +kernel) rfl rfl (Nat.le_of_ble_eq_true rfl) dX3_cool_34 (fun (w9 : Rw) => (WKet a1 w9)) (upd y3 2 0) rfl (fun y4 ey4 H locs hP hD hS => ?_)
    have hf := lt_use ey4 hf
    obtain rfl := so1 hf
    exact ret_v hx hb hr hlocks hK hP hD hS dX3_cool_37
def pX3_tell (fu : Nat) (m1 : Rw) (p1 : Int32) (p2 : Int32) : Option Int32 :=
  if p1 = 0 then
    some (m1 0)
  else
  if p1 = 1 then
    some (m1 1)
  else
  if p1 = 2 then
    some (m1 2)
  else
  some (imax 0 ((m1 3) - p2))
set_option maxHeartbeats 4000000 in
set_option maxRecDepth 100000 in
theorem tX3_tell (l : Launch) (D : va_G) (z tt : Nat → Nat) (a1 : Nat) (m1 : Rw) (p1 : Int32) (p2 : Int32) (fu : Nat) (rr : Int32) (hf : pX3_tell fu m1 p1 p2 = some rr) : MetI l yX3_tell wsX3_tell ({ frames := 1, cells := 0, slots := 0, locals := 17 } : Room) D z tt ([.ref a1, .int p1, .int p2] : List Value) (WKet a1 m1) rr (WKet a1 m1) := by
  intro sz
  refine Met.ofW (cc := cX3_tell) (maxL := 3) (ret := (some .int)) (by decide) rfl ?_
  intro p e s m args below meth c s₁ B hml hv
  obtain ⟨rfl, hsz, hP, hK, hD0, hT, hN⟩ := hv
  have hx := B.exec
  have hb := B.bytes
  have hr := B.returns
  have hts : ∀ w ∈ wsA, w.before ([.ref a1, .int p1, .int p2] : List Value).toArray s = true := fun w h => atoms_spec (ws := wsX3_tell) B.pre w (List.mem_cons_of_mem _ h)
  have hown : s.vm.findClass RX3 = some m.cls := findClass_of_methodNamed B.named
  have hlocks := B.notSynchronized
  subst hsz
  have hD := hD0.self (sz := s.heap.size)
  generalize hAe : va_A (WKet a1 m1) s.heap.size = A at hD hT ⊢
  have hA : ∀ q : Nat, s.heap.size ≤ q → A q := fun q h => by rw [← hAe]; exact Or.inr h
  have hS : va_S A s.heap s.heap [] := va_S.rf
  have hl := lv_entry ([.ref a1, .int p1, .int p2] : List Value) (n := 3) (Nat.le_of_ble_eq_true rfl)
  rw [lg_entry_eq]
  generalize (lg_sl ([.ref a1, .int p1, .int p2] : List Value) ++ List.replicate (3 - (lg_sl ([.ref a1, .int p1, .int p2] : List Value)).length) Slot.unset).toArray = ls at hl ⊢
  have hl : lv_has ls 3 [(0, .ref a1), (1, .int p1), (2, .int p2)] := hl
  unfold pX3_tell at hf
  refine lv_iload_n hx hb dX3_tell_0 rfl (lv_at hl 1 rfl) ?_
  by_cases c1 : p1 = 0
  · have hf := if_t c1 hf
    refine z_tin (K := 0) hx hb c1 dX3_tell_1 ⟨rfl, by decide, by decide⟩ (tgt := 28) (by decide) ?_
    refine lv_aload_n hx hb dX3_tell_28 rfl (lv_at hl 0 rfl) ?_
    refine va_get (D := D) (ci := 3) (v := .int (m1 0)) (C := RX3) (T := TX3) (N := 5) hx hb hts iX3 hown hK hP 0 rfl rfl 0 (by decide) (hts _ aw131) (fun _ h9 => h9) rfl dX3_tell_29 ?_
    obtain rfl := so1 hf
    exact ret_i hx hb hr hlocks hK hP hD hS dX3_tell_32
  have hf := if_f c1 hf
  by_cases c2 : p1 = 1
  · have hf := if_t c2 hf
    refine z_tin (K := 1) hx hb c2 dX3_tell_1 ⟨rfl, by decide, by decide⟩ (tgt := 33) (by decide) ?_
    refine lv_aload_n hx hb dX3_tell_33 rfl (lv_at hl 0 rfl) ?_
    refine va_get (D := D) (ci := 3) (v := .int (m1 1)) (C := RX3) (T := TX3) (N := 5) hx hb hts iX3 hown hK hP 0 rfl rfl 1 (by decide) (hts _ aw134) (fun _ h9 => h9) rfl dX3_tell_34 ?_
    obtain rfl := so1 hf
    exact ret_i hx hb hr hlocks hK hP hD hS dX3_tell_37
  have hf := if_f c2 hf
  by_cases c3 : p1 = 2
  · have hf := if_t c3 hf
    refine z_tin (K := 2) hx hb c3 dX3_tell_1 ⟨rfl, by decide, by decide⟩ (tgt := 38) (by decide) ?_
    refine lv_aload_n hx hb dX3_tell_38 rfl (lv_at hl 0 rfl) ?_
    refine va_get (D := D) (ci := 3) (v := .int (m1 2)) (C := RX3) (T := TX3) (N := 5) hx hb hts iX3 hown hK hP 0 rfl rfl 2 (by decide) (hts _ aw135) (fun _ h9 => h9) rfl dX3_tell_39 ?_
    obtain rfl := so1 hf
    exact ret_i hx hb hr hlocks hK hP hD hS dX3_tell_42
  have hf := if_f c3 hf
  refine lv_tableOut (tgt := 43) hx hb dX3_tell_1 (by have qc1 := lv_neT c1 (show (0 : Int32).toInt = 0 from by decide); have qc2 := lv_neT c2 (show (1 : Int32).toInt = 1 from by decide); have qc3 := lv_neT c3 (show (2 : Int32).toInt = 2 from by decide); omega) (by decide) ?_
  refine lv_iconst (v := 0) hx hb dX3_tell_43 (by decide) ?_
  refine lv_aload_n hx hb dX3_tell_44 rfl (lv_at hl 0 rfl) ?_
  refine va_get (D := D) (ci := 3) (v := .int (m1 3)) (C := RX3) (T := TX3) (N := 5) hx hb hts iX3 hown hK hP 0 rfl rfl 3 (by decide) (hts _ aw136) (fun _ h9 => h9) rfl dX3_tell_45 ?_
  refine lv_iload_n hx hb dX3_tell_48 rfl (lv_at hl 2 rfl) ?_
  refine lv_isub hx hb dX3_tell_49 ?_
  refine z_max hx hb (by rw [hml]; exact hl.1.symm) hown (hts _ aw411) (hts _ aw352) (hts _ aw54) (hts _ aw353) (Nat.le_of_ble_eq_true rfl) (Nat.le_of_ble_eq_true rfl) dX3_tell_50 (Nat.zero_le _) (Nat.zero_le _) ?_
  obtain rfl := so1 hf
  exact ret_i hx hb hr hlocks hK hP hD hS dX3_tell_53
def pJ9_floorMod_7cf53 (fu : Nat) (p1 : Int32) (p2 : Int32) : Option Int32 :=
  ckn p2 <|
  lt' ((p1 - p1 / p2 * p2) : Int32) fun x2 =>
  if 0 ≤ (p1 ^^^ p2) then
    some x2
  else
    if x2 = 0 then
      some x2
    else
      some (x2 + p2)
set_option maxHeartbeats 4000000 in
set_option maxRecDepth 100000 in
theorem tJ9_floorMod_7cf53 (l : Launch) (D : va_G) (z tt : Nat → Nat)   (p1 : Int32) (p2 : Int32) (fu : Nat) (rr : Int32) (hf : pJ9_floorMod_7cf53 fu p1 p2 = some rr) : MetI l yJ9_floorMod_7cf53 wsJ9_floorMod_7cf53 ({ frames := 0, cells := 0, slots := 0, locals := 0 } : Room) D z tt ([.int p1, .int p2] : List Value) ([] : va_W) rr ([] : va_W) := by
  intro sz
  refine Met.ofWF (cc := cJ9_floorMod_7cf53) (maxL := 3) (ret := (some .int)) (by decide +kernel) rfl ?_
  intro p e s m args below meth c s₁ B hml hv
  obtain ⟨rfl, hsz, hP, hK, hD0, hT, hN⟩ := hv
  have hx := B.exec
  have hb := B.bytes
  have hr := B.returns
  have hts : ∀ w ∈ wsA, w.before ([.int p1, .int p2] : List Value).toArray s = true := fun w h => atoms_spec (ws := wsJ9_floorMod_7cf53) B.pre w (List.mem_cons_of_mem _ h)
  have hown : s.vm.findClass RJ9 = some m.cls := findClass_of_methodNamed B.named
  have hlocks := B.notSynchronized
  subst hsz
  have hD := hD0.self (sz := s.heap.size)
  generalize hAe : va_A ([] : va_W) s.heap.size = A at hD hT ⊢
  have hA : ∀ q : Nat, s.heap.size ≤ q → A q := fun q h => by rw [← hAe]; exact Or.inr h
  have hS : va_S A s.heap s.heap [] := va_S.rf
  have hl := lv_entry ([.int p1, .int p2] : List Value) (n := 3) (Nat.le_of_ble_eq_true rfl)
  rw [lg_entry_eq]
  generalize (lg_sl ([.int p1, .int p2] : List Value) ++ List.replicate (3 - (lg_sl ([.int p1, .int p2] : List Value)).length) Slot.unset).toArray = ls at hl ⊢
  have hl : lv_has ls 3 [(0, .int p1), (1, .int p2)] := hl
  unfold pJ9_floorMod_7cf53 at hf
  refine lv_iload_n hx hb dJ9_floorMod_7cf53_0 rfl (lv_at hl 0 rfl) ?_
  refine lv_iload_n hx hb dJ9_floorMod_7cf53_1 rfl (lv_at hl 1 rfl) ?_
  obtain ⟨h1, hf⟩ := ckn_use hf
  refine lv_irem hx hb dJ9_floorMod_7cf53_2 h1 ?_
  refine lv_topi (fun x2 ex2 => ?_)
  have hf := lt_use ex2 hf
  refine lv_istore_n (lv' := [(2, .int x2), (0, .int p1), (1, .int p2)]) hx hb dJ9_floorMod_7cf53_3 rfl hl (by decide) rfl (fun ls hl => ?_)
  refine lv_iload_n hx hb dJ9_floorMod_7cf53_4 rfl (lv_at hl 1 rfl) ?_
  refine lv_iload_n hx hb dJ9_floorMod_7cf53_5 rfl (lv_at hl 2 rfl) ?_
  refine lv_ixor hx hb dJ9_floorMod_7cf53_6 ?_
  refine lv_if_ge (tgt := 18) hx hb dJ9_floorMod_7cf53_7 (by decide) (fun c3 => ?_) (fun c3 => ?_)
  · have hf := if_t c3 hf
    refine lv_iload_n hx hb dJ9_floorMod_7cf53_18 rfl (lv_at hl 0 rfl) ?_
    obtain rfl := so1 hf
    exact ret_i hx hb hr hlocks hK hP hD hS dJ9_floorMod_7cf53_19
  · have hf := if_f c3 hf
    refine lv_iload_n hx hb dJ9_floorMod_7cf53_10 rfl (lv_at hl 0 rfl) ?_
    refine lv_if_eq (tgt := 18) hx hb dJ9_floorMod_7cf53_11 (by decide) (fun c4 => ?_) (fun c4 => ?_)
    · have hf := if_t c4 hf
      refine lv_iload_n hx hb dJ9_floorMod_7cf53_18 rfl (lv_at hl 0 rfl) ?_
      obtain rfl := so1 hf
      exact ret_i hx hb hr hlocks hK hP hD hS dJ9_floorMod_7cf53_19
    · have hf := if_f c4 hf
      refine lv_iload_n hx hb dJ9_floorMod_7cf53_14 rfl (lv_at hl 0 rfl) ?_
      refine lv_iload_n hx hb dJ9_floorMod_7cf53_15 rfl (lv_at hl 2 rfl) ?_
      refine lv_iadd hx hb dJ9_floorMod_7cf53_16 ?_
      obtain rfl := so1 hf
      exact ret_i hx hb hr hlocks hK hP hD hS dJ9_floorMod_7cf53_17
end
section
def pX2_copy (fu : Nat) (m1 : Mem) (m2 : Mem) : Option Mem :=
  lt' (va_up m1 1 (va_cpy (m2 1) (m1 1) 0 0 8)) fun y1 =>
  lt' (va_up y1 2 (va_cpy (m2 2) (y1 2) 0 0 8)) fun y2 =>
  lt' (up2 y2 0 4 (m2 0 4)) fun y3 =>
  lt' (up2 y3 0 5 (m2 0 5)) fun y4 =>
  lt' (up2 y4 0 6 (m2 0 6)) fun y5 =>
  zl2 (fun g9 (x6 : Int32) (y7 : Mem) =>
    if (y7 0 4) ≤ x6 then
      zl2 (fun g15 (x12 : Int32) (y13 : Mem) =>
        if 2 ≤ x12 then
          some y13
        else
          ck x12 2 <|
          ck x12 2 <|
          bd (pX3_copy fu (y13 (3 + x12.toNatClampNeg)) (m2 (3 + x12.toNatClampNeg))) fun y20 =>
          lt' (va_up y13 (3 + x12.toNatClampNeg) y20) fun y22 =>
          lt' (x12 + 1) fun x23 =>
          g15 x23 y22) fu 0 y7
    else
      ck x6 8 <|
      ck x6 8 <|
      bd (pX1_copy fu (y7 (5 + x6.toNatClampNeg)) (m2 (5 + x6.toNatClampNeg))) fun y26 =>
      lt' (va_up y7 (5 + x6.toNatClampNeg) y26) fun y28 =>
      lt' (x6 + 1) fun x29 =>
      g9 x29 y28) fu 0 y5
set_option maxHeartbeats 4000000 in
set_option maxRecDepth 100000 in
theorem tX2_copy (l : Launch) (D : va_G) (z tt : Nat → Nat) (a1 : Nat → Nat) (a2 : Nat → Nat) (m1 : Mem) (m2 : Mem)  (fu : Nat) (m1' : Mem) (hf : pX2_copy fu m1 m2 = some m1') : MetV l yX2_copy wsX2_copy ({ frames := 2, cells := 0, slots := 0, locals := 43 } : Room) D z tt ([.ref (a1 0), .ref (a2 0)] : List Value) (WDay z a1 m1 ++ (WDay z a2 m2)) (WDay z a1 m1' ++ (WDay z a2 m2)) := by
  intro sz
  refine Met.ofW (cc := cX2_copy) (maxL := 3) (ret := none) (by decide) rfl ?_
  intro p e s m args below meth c s₁ B hml hv
  obtain ⟨rfl, hsz, hP, hK, hD0, hT, hN⟩ := hv
  have hx := B.exec
  have hb := B.bytes
  have hr := B.returns
  have hts : ∀ w ∈ wsA, w.before ([.ref (a1 0), .ref (a2 0)] : List Value).toArray s = true := fun w h => atoms_spec (ws := wsX2_copy) B.pre w (List.mem_cons_of_mem _ h)
  have hown : s.vm.findClass RX2 = some m.cls := findClass_of_methodNamed B.named
  have hlocks := B.notSynchronized
  subst hsz
  have hD := hD0.self (sz := s.heap.size)
  generalize hAe : va_A (WDay z a1 m1 ++ (WDay z a2 m2)) s.heap.size = A at hD hT ⊢
  have hA : ∀ q : Nat, s.heap.size ≤ q → A q := fun q h => by rw [← hAe]; exact Or.inr h
  have hS : va_S A s.heap s.heap [] := va_S.rf
  have hl := lv_entry ([.ref (a1 0), .ref (a2 0)] : List Value) (n := 3) (Nat.le_of_ble_eq_true rfl)
  rw [lg_entry_eq]
  generalize (lg_sl ([.ref (a1 0), .ref (a2 0)] : List Value) ++ List.replicate (3 - (lg_sl ([.ref (a1 0), .ref (a2 0)] : List Value)).length) Slot.unset).toArray = ls at hl ⊢
  have hl : lv_has ls 3 [(0, .ref (a1 0)), (1, .ref (a2 0))] := hl
  unfold pX2_copy at hf
  refine lv_aload_n hx hb dX2_copy_0 rfl (lv_at hl 1 rfl) ?_
  refine va_get (D := D) (ci := 2) (v := .ref (a2 1)) (C := RX2) (T := TX2) (N := 8) hx hb hts iX2 hown hK hP 15 rfl rfl 0 (by decide) (hts _ aw150) (fun _ h9 => h9) rfl dX2_copy_1 ?_
  refine lv_iconst (v := 0) hx hb dX2_copy_4 (by decide) ?_
  refine lv_aload_n hx hb dX2_copy_5 rfl (lv_at hl 0 rfl) ?_
  refine va_get (D := D) (ci := 2) (v := .ref (a1 1)) (C := RX2) (T := TX2) (N := 8) hx hb hts iX2 hown hK hP 0 rfl rfl 0 (by decide) (hts _ aw150) (fun _ h9 => h9) rfl dX2_copy_6 ?_
  refine lv_iconst (v := 0) hx hb dX2_copy_9 (by decide) ?_
  refine lv_aload_n hx hb dX2_copy_10 rfl (lv_at hl 0 rfl) ?_
  refine va_get (D := D) (ci := 2) (v := .ref (a1 1)) (C := RX2) (T := TX2) (N := 8) hx hb hts iX2 hown hK hP 0 rfl rfl 0 (by decide) (hts _ aw150) (fun _ h9 => h9) rfl dX2_copy_11 ?_
  refine z_alen hx hb hK hP 1 0 rfl rfl (v := 8) rfl dX2_copy_14 ?_
  refine z_copy hx hb (by rw [hml]; exact hl.1.symm) hown (hts _ aw292) (hts _ aw294) (hts _ aw293) (hts _ aw53) hK hP hD hS 16 1 rfl rfl (n := 8) (nn := 8) (by decide) (by decide) (Nat.le_of_ble_eq_true rfl) (Nat.le_of_ble_eq_true rfl) (Nat.le_of_ble_eq_true rfl) (by decide +kernel) dX2_copy_15 (fun (w9 : Mem) => (WDay z a1 w9 ++ (WDay z a2 m2))) (va_up m1 1 (va_cpy (m2 1) (m1 1) 0 0 8)) rfl (fun y1 ey1 H locs hP hD hS => ?_)
  have hf := lt_use ey1 hf
  refine lv_aload_n hx hb dX2_copy_18 rfl (lv_at hl 1 rfl) ?_
  refine va_get (D := D) (ci := 2) (v := .ref (a2 2)) (C := RX2) (T := TX2) (N := 8) hx hb hts iX2 hown hK hP 15 rfl rfl 3 (by decide) (hts _ aw162) (fun _ h9 => h9) rfl dX2_copy_19 ?_
  refine lv_iconst (v := 0) hx hb dX2_copy_22 (by decide) ?_
  refine lv_aload_n hx hb dX2_copy_23 rfl (lv_at hl 0 rfl) ?_
  refine va_get (D := D) (ci := 2) (v := .ref (a1 2)) (C := RX2) (T := TX2) (N := 8) hx hb hts iX2 hown hK hP 0 rfl rfl 3 (by decide) (hts _ aw162) (fun _ h9 => h9) rfl dX2_copy_24 ?_
  refine lv_iconst (v := 0) hx hb dX2_copy_27 (by decide) ?_
  refine lv_aload_n hx hb dX2_copy_28 rfl (lv_at hl 0 rfl) ?_
  refine va_get (D := D) (ci := 2) (v := .ref (a1 2)) (C := RX2) (T := TX2) (N := 8) hx hb hts iX2 hown hK hP 0 rfl rfl 3 (by decide) (hts _ aw162) (fun _ h9 => h9) rfl dX2_copy_29 ?_
  refine z_alen hx hb hK hP 2 0 rfl rfl (v := 8) rfl dX2_copy_32 ?_
  refine z_copy hx hb (by rw [hml]; exact hl.1.symm) hown (hts _ aw292) (hts _ aw294) (hts _ aw293) (hts _ aw53) hK hP hD hS 17 2 rfl rfl (n := 8) (nn := 8) (by decide) (by decide) (Nat.le_of_ble_eq_true rfl) (Nat.le_of_ble_eq_true rfl) (Nat.le_of_ble_eq_true rfl) (by decide +kernel) dX2_copy_33 (fun (w9 : Mem) => (WDay z a1 w9 ++ (WDay z a2 m2))) (va_up y1 2 (va_cpy (m2 2) (y1 2) 0 0 8)) rfl (fun y2 ey2 H locs hP hD hS => ?_)
  have hf := lt_use ey2 hf
  refine lv_aload_n hx hb dX2_copy_36 rfl (lv_at hl 0 rfl) ?_
  refine lv_aload_n hx hb dX2_copy_37 rfl (lv_at hl 1 rfl) ?_
  refine va_get (D := D) (ci := 2) (v := .int (m2 0 4)) (C := RX2) (T := TX2) (N := 8) hx hb hts iX2 hown hK hP 15 rfl rfl 4 (by decide) (hts _ aw165) (fun _ h9 => h9) rfl dX2_copy_38 ?_
  refine z_put (ci := 2) (v := .int (m2 0 4)) (ty := .int) (C := RX2) (T := TX2) (N := 8) hx hb hts iX2 tyX2 tyX2_ok nmX2 hown hK hP hD hS 0 rfl rfl 4 (by decide) (hts _ aw165) (fun _ h9 => h9) rfl (by decide +kernel) rfl rfl (Nat.le_of_ble_eq_true rfl) dX2_copy_41 (fun (w9 : Mem) => (WDay z a1 w9 ++ (WDay z a2 m2))) (up2 y2 0 4 (m2 0 4)) rfl (fun y3 ey3 H locs hP hD hS => ?_)
  have hf := lt_use ey3 hf
  refine lv_aload_n hx hb dX2_copy_44 rfl (lv_at hl 0 rfl) ?_
  refine lv_aload_n hx hb dX2_copy_45 rfl (lv_at hl 1 rfl) ?_
  refine va_get (D := D) (ci := 2) (v := .int (m2 0 5)) (C := RX2) (T := TX2) (N := 8) hx hb hts iX2 hown hK hP 15 rfl rfl 5 (by decide) (hts _ aw168) (fun _ h9 => h9) rfl dX2_copy_46 ?_
  refine z_put (ci := 2) (v := .int (m2 0 5)) (ty := .int) (C := RX2) (T := TX2) (N := 8) hx hb hts iX2 tyX2 tyX2_ok nmX2 hown hK hP hD hS 0 rfl rfl 5 (by decide) (hts _ aw168) (fun _ h9 => h9) rfl (by decide +kernel) rfl rfl (Nat.le_of_ble_eq_true rfl) dX2_copy_49 (fun (w9 : Mem) => (WDay z a1 w9 ++ (WDay z a2 m2))) (up2 y3 0 5 (m2 0 5)) rfl (fun y4 ey4 H locs hP hD hS => ?_)
  have hf := lt_use ey4 hf
  refine lv_aload_n hx hb dX2_copy_52 rfl (lv_at hl 0 rfl) ?_
  refine lv_aload_n hx hb dX2_copy_53 rfl (lv_at hl 1 rfl) ?_
  refine va_get (D := D) (ci := 2) (v := .int (m2 0 6)) (C := RX2) (T := TX2) (N := 8) hx hb hts iX2 hown hK hP 15 rfl rfl 6 (by decide) (hts _ aw170) (fun _ h9 => h9) rfl dX2_copy_54 ?_
  refine z_put (ci := 2) (v := .int (m2 0 6)) (ty := .int) (C := RX2) (T := TX2) (N := 8) hx hb hts iX2 tyX2 tyX2_ok nmX2 hown hK hP hD hS 0 rfl rfl 6 (by decide) (hts _ aw170) (fun _ h9 => h9) rfl (by decide +kernel) rfl rfl (Nat.le_of_ble_eq_true rfl) dX2_copy_57 (fun (w9 : Mem) => (WDay z a1 w9 ++ (WDay z a2 m2))) (up2 y4 0 6 (m2 0 6)) rfl (fun y5 ey5 H locs hP hD hS => ?_)
  have hf := lt_use ey5 hf
  refine lv_iconst (v := 0) hx hb dX2_copy_60 (by decide) ?_
  refine lv_istore_n (lv' := [(2, .int 0), (0, .ref (a1 0)), (1, .ref (a2 0))]) hx hb dX2_copy_61 rfl hl (by decide) rfl (fun ls hl => ?_)
  obtain ⟨F8, eF8, hf⟩ := zl2_use hf
  have L62_F8 : ∀ (n : Nat) (x6 : Int32) (y7 : Mem) (H : Heap) (locs : List Loc), va_P D vwCl (WDay z a1 y7 ++ (WDay z a2 m2)) H → va_D A (WDay z a1 y7 ++ (WDay z a2 m2)) → va_S A s.heap H locs → ∀ (ls : Array Slot), lv_has ls 3 [(0, .ref (a1 0)), (1, .ref (a2 0)), (2, .int x6)] → zl2 F8 n x6 y7 = some m1' → GV p l e (headSpec wsX2_copy ({ frames := 2, cells := 0, slots := 0, locals := 43 } : Room)).room s m ([.ref (a1 0), .ref (a2 0)] : List Value).toArray below meth c A D z (WDay z a1 m1' ++ (WDay z a2 m2)) H locs (F0 m 62 ls []) := by
    intro n
    induction n with
    | zero =>
      intro x6 y7 H locs hP hD hS ls hl hf
      exact no_none hf
    | succ n ih10 =>
      intro x6 y7 H locs hP hD hS ls hl hf
      have hf := zl2_s eF8 hf
      refine lv_iload_n hx hb dX2_copy_62 rfl (lv_at hl 2 rfl) ?_
      refine lv_aload_n hx hb dX2_copy_63 rfl (lv_at hl 0 rfl) ?_
      refine va_get (D := D) (ci := 2) (v := .int (y7 0 4)) (C := RX2) (T := TX2) (N := 8) hx hb hts iX2 hown hK hP 0 rfl rfl 4 (by decide) (hts _ aw165) (fun _ h9 => h9) rfl dX2_copy_64 ?_
      refine lv_icmp_ge (tgt := 91) hx hb dX2_copy_67 (by decide) (fun c11 => ?_) (fun c11 => ?_)
      · have hf := if_t c11 hf
        refine lv_iconst (v := 0) hx hb dX2_copy_91 (by decide) ?_
        refine lv_istore_n (lv' := [(2, .int 0), (0, .ref (a1 0)), (1, .ref (a2 0))]) hx hb dX2_copy_92 rfl hl (by decide) rfl (fun ls hl => ?_)
        obtain ⟨F14, eF14, hf⟩ := zl2_use hf
        have L93_F14 : ∀ (n : Nat) (x12 : Int32) (y13 : Mem) (H : Heap) (locs : List Loc), va_P D vwCl (WDay z a1 y13 ++ (WDay z a2 m2)) H → va_D A (WDay z a1 y13 ++ (WDay z a2 m2)) → va_S A s.heap H locs → ∀ (ls : Array Slot), lv_has ls 3 [(0, .ref (a1 0)), (1, .ref (a2 0)), (2, .int x12)] → zl2 F14 n x12 y13 = some m1' → GV p l e (headSpec wsX2_copy ({ frames := 2, cells := 0, slots := 0, locals := 43 } : Room)).room s m ([.ref (a1 0), .ref (a2 0)] : List Value).toArray below meth c A D z (WDay z a1 m1' ++ (WDay z a2 m2)) H locs (F0 m 93 ls []) := by
          intro n
          induction n with
          | zero =>
            intro x12 y13 H locs hP hD hS ls hl hf
            exact no_none hf
          | succ n ih16 =>
            intro x12 y13 H locs hP hD hS ls hl hf
            have hf := zl2_s eF14 hf
            refine lv_iload_n hx hb dX2_copy_93 rfl (lv_at hl 2 rfl) ?_
            refine lv_aload_n hx hb dX2_copy_94 rfl (lv_at hl 0 rfl) ?_
            refine va_get (D := D) (ci := 2) (v := .ref (a1 14)) (C := RX2) (T := TX2) (N := 8) hx hb hts iX2 hown hK hP 0 rfl rfl 2 (by decide) (hts _ aw159) (fun _ h9 => h9) rfl dX2_copy_95 ?_
            refine z_alen hx hb hK hP 14 2 rfl rfl (v := 2) rfl dX2_copy_98 ?_
            refine lv_icmp_ge (tgt := 123) hx hb dX2_copy_99 (by decide) (fun c17 => ?_) (fun c17 => ?_)
            · have hf := if_t c17 hf
              obtain rfl := so1 hf
              exact ret_v hx hb hr hlocks hK hP hD hS dX2_copy_123
            · have hf := if_f c17 hf
              refine lv_aload_n hx hb dX2_copy_102 rfl (lv_at hl 0 rfl) ?_
              refine va_get (D := D) (ci := 2) (v := .ref (a1 14)) (C := RX2) (T := TX2) (N := 8) hx hb hts iX2 hown hK hP 0 rfl rfl 2 (by decide) (hts _ aw159) (fun _ h9 => h9) rfl dX2_copy_103 ?_
              refine lv_iload_n hx hb dX2_copy_106 rfl (lv_at hl 2 rfl) ?_
              obtain ⟨h18, hf⟩ := ck_use hf
              refine z_ald hx hb hK hP 14 2 (C := "FilledForOne$Kettle") (g := (fun j => a1 (3 + j))) rfl rfl h18 dX2_copy_107 ?_
              refine lv_aload_n hx hb dX2_copy_108 rfl (lv_at hl 1 rfl) ?_
              refine va_get (D := D) (ci := 2) (v := .ref (a2 14)) (C := RX2) (T := TX2) (N := 8) hx hb hts iX2 hown hK hP 15 rfl rfl 2 (by decide) (hts _ aw159) (fun _ h9 => h9) rfl dX2_copy_109 ?_
              refine lv_iload_n hx hb dX2_copy_112 rfl (lv_at hl 2 rfl) ?_
              obtain ⟨h19, hf⟩ := ck_use hf
              refine z_ald hx hb hK hP 29 2 (C := "FilledForOne$Kettle") (g := (fun j => a2 (3 + j))) rfl rfl h19 dX2_copy_113 ?_
              obtain ⟨y20, q21, hf⟩ := bd_use hf
              obtain ⟨y22, ey22⟩ : ∃ w : Mem, w = va_up y13 (3 + x12.toNatClampNeg) y20 := ⟨_, rfl⟩
              have hf := lt_use ey22 hf
              have hfo : Foc (WDay z a1 y13 ++ (WDay z a2 m2)) (WKet (a1 (3 + x12.toNatClampNeg)) (y13 (3 + x12.toNatClampNeg)) ++ (WKet (a2 (3 + x12.toNatClampNeg)) (m2 (3 + x12.toNatClampNeg)))) (WDay z a1 y22 ++ (WDay z a2 m2)) (WKet (a1 (3 + x12.toNatClampNeg)) y20 ++ (WKet (a2 (3 + x12.toNatClampNeg)) (m2 (3 + x12.toNatClampNeg)))) := (foc_app (foc_el (WDay_k z a1 y13 (vp_lt h18)) (by rw [ey22]; exact WDay_sk z a1 y13 y20 (vp_lt h18))) (foc_els (WDay_k z a2 m2 (vp_lt h19))))
              refine z_goV (ws1 := (WDay z a1 y22 ++ (WDay z a2 m2))) (va_runV (As := [.ref (a2 (3 + x12.toNatClampNeg))]) (rest := []) ⟨hx, hb, hml, hown, hts⟩ (tX3_copy l D z tt (a1 (3 + x12.toNatClampNeg)) (a2 (3 + x12.toNatClampNeg)) (y13 (3 + x12.toNatClampNeg)) (m2 (3 + x12.toNatClampNeg))  fu y20 q21 _) (cwV 1 hts (gV4 aw303 aw304 aw305 aw48 aw306) rfl rfl rfl (by decide +kernel) ⟨Nat.le_of_ble_eq_true rfl, Nat.le_of_ble_eq_true rfl⟩) (z_preV hK hP hD hS hA hT hN hfo (va_recv hK hP (ci := 3) (q0 := (3 + x12.toNatClampNeg)) rfl (w_beg (WDay_k z a1 y13 (vp_lt h18))))) rfl rfl hl.1 rfl (lv_room (Nat.le_of_ble_eq_true rfl)) dX2_copy_114 ⟨Nat.zero_le _, Nat.zero_le _⟩) hP hD hS hA hfo (fun H locs hP hD hS => ?_)
              obtain ⟨x23, ex23⟩ : ∃ y : Int32, y = x12 + 1 := ⟨_, rfl⟩
              have hf := lt_use ex23 hf
              refine lv_iinc (v := x23) (lv' := [(2, .int x23), (0, .ref (a1 0)), (1, .ref (a2 0))]) hx hb dX2_copy_117 hl (k := 2) rfl (by rw [ex23]; rfl) (by decide) rfl (fun ls hl => ?_)
              refine lv_goto (tgt := 93) hx hb dX2_copy_120 (by decide) ?_
              exact ih16 _ _ _ _ hP hD hS _ (lv_sub hl [1, 2, 0] rfl) hf
        exact L93_F14 fu _ _ _ _ hP hD hS _ (lv_sub hl [1, 2, 0] rfl) hf
      · have hf := if_f c11 hf
        refine lv_aload_n hx hb dX2_copy_70 rfl (lv_at hl 0 rfl) ?_
        refine va_get (D := D) (ci := 2) (v := .ref (a1 13)) (C := RX2) (T := TX2) (N := 8) hx hb hts iX2 hown hK hP 0 rfl rfl 1 (by decide) (hts _ aw154) (fun _ h9 => h9) rfl dX2_copy_71 ?_
        refine lv_iload_n hx hb dX2_copy_74 rfl (lv_at hl 2 rfl) ?_
        obtain ⟨h24, hf⟩ := ck_use hf
        refine z_ald hx hb hK hP 13 1 (C := "FilledForOne$Comer") (g := (fun j => a1 (5 + j))) rfl rfl h24 dX2_copy_75 ?_
        refine lv_aload_n hx hb dX2_copy_76 rfl (lv_at hl 1 rfl) ?_
        refine va_get (D := D) (ci := 2) (v := .ref (a2 13)) (C := RX2) (T := TX2) (N := 8) hx hb hts iX2 hown hK hP 15 rfl rfl 1 (by decide) (hts _ aw154) (fun _ h9 => h9) rfl dX2_copy_77 ?_
        refine lv_iload_n hx hb dX2_copy_80 rfl (lv_at hl 2 rfl) ?_
        obtain ⟨h25, hf⟩ := ck_use hf
        refine z_ald hx hb hK hP 28 1 (C := "FilledForOne$Comer") (g := (fun j => a2 (5 + j))) rfl rfl h25 dX2_copy_81 ?_
        obtain ⟨y26, q27, hf⟩ := bd_use hf
        obtain ⟨y28, ey28⟩ : ∃ w : Mem, w = va_up y7 (5 + x6.toNatClampNeg) y26 := ⟨_, rfl⟩
        have hf := lt_use ey28 hf
        have hfo : Foc (WDay z a1 y7 ++ (WDay z a2 m2)) (WCom (a1 (5 + x6.toNatClampNeg)) (y7 (5 + x6.toNatClampNeg)) ++ (WCom (a2 (5 + x6.toNatClampNeg)) (m2 (5 + x6.toNatClampNeg)))) (WDay z a1 y28 ++ (WDay z a2 m2)) (WCom (a1 (5 + x6.toNatClampNeg)) y26 ++ (WCom (a2 (5 + x6.toNatClampNeg)) (m2 (5 + x6.toNatClampNeg)))) := (foc_app (foc_el (WDay_c z a1 y7 (vp_lt h24)) (by rw [ey28]; exact WDay_sc z a1 y7 y26 (vp_lt h24))) (foc_els (WDay_c z a2 m2 (vp_lt h25))))
        refine z_goV (ws1 := (WDay z a1 y28 ++ (WDay z a2 m2))) (va_runV (As := [.ref (a2 (5 + x6.toNatClampNeg))]) (rest := []) ⟨hx, hb, hml, hown, hts⟩ (tX1_copy l D z tt (a1 (5 + x6.toNatClampNeg)) (a2 (5 + x6.toNatClampNeg)) (y7 (5 + x6.toNatClampNeg)) (m2 (5 + x6.toNatClampNeg))  fu y26 q27 _) (cwV 1 hts (gV4 aw295 aw296 aw297 aw47 aw298) rfl rfl rfl (by decide +kernel) ⟨Nat.le_of_ble_eq_true rfl, Nat.le_of_ble_eq_true rfl⟩) (z_preV hK hP hD hS hA hT hN hfo (va_recv hK hP (ci := 1) (q0 := (5 + x6.toNatClampNeg)) rfl (w_beg (WDay_c z a1 y7 (vp_lt h24))))) rfl rfl hl.1 rfl (lv_room (Nat.le_of_ble_eq_true rfl)) dX2_copy_82 ⟨Nat.zero_le _, Nat.zero_le _⟩) hP hD hS hA hfo (fun H locs hP hD hS => ?_)
        obtain ⟨x29, ex29⟩ : ∃ y : Int32, y = x6 + 1 := ⟨_, rfl⟩
        have hf := lt_use ex29 hf
        refine lv_iinc (v := x29) (lv' := [(2, .int x29), (0, .ref (a1 0)), (1, .ref (a2 0))]) hx hb dX2_copy_85 hl (k := 2) rfl (by rw [ex29]; rfl) (by decide) rfl (fun ls hl => ?_)
        refine lv_goto (tgt := 62) hx hb dX2_copy_88 (by decide) ?_
        exact ih10 _ _ _ _ hP hD hS _ (lv_sub hl [1, 2, 0] rfl) hf
  exact L62_F8 fu _ _ _ _ hP hD hS _ (lv_sub hl [1, 2, 0] rfl) hf
def pX2_begin (fu : Nat) (m1 : Mem) : Option Mem :=
  lt' (up2 m1 0 6 0) fun y1 =>
  lt' (up2 y1 0 5 0) fun y2 =>
  zl2 (fun g6 (x3 : Int32) (y4 : Mem) =>
    if (y4 0 4) ≤ x3 then
      zl2 (fun g12 (x9 : Int32) (y10 : Mem) =>
        if 2 ≤ x9 then
          some y10
        else
          ck x9 2 <|
          bd (pX3_begin fu (y10 (3 + x9.toNatClampNeg))) fun y16 =>
          lt' (va_up y10 (3 + x9.toNatClampNeg) y16) fun y18 =>
          lt' (x9 + 1) fun x19 =>
          g12 x19 y18) fu 0 y4
    else
      ck x3 8 <|
      lt' (up2 y4 (5 + x3.toNatClampNeg) 5 0) fun y21 =>
      lt' (x3 + 1) fun x22 =>
      g6 x22 y21) fu 0 y2
set_option maxHeartbeats 4000000 in
set_option maxRecDepth 100000 in
theorem tX2_begin (l : Launch) (D : va_G) (z tt : Nat → Nat) (a1 : Nat → Nat) (m1 : Mem)  (fu : Nat) (m1' : Mem) (hf : pX2_begin fu m1 = some m1') : MetV l yX2_begin wsX2_begin ({ frames := 1, cells := 0, slots := 0, locals := 20 } : Room) D z tt ([.ref (a1 0)] : List Value) (WDay z a1 m1) (WDay z a1 m1') := by
  intro sz
  refine Met.ofW (cc := cX2_begin) (maxL := 2) (ret := none) (by decide) rfl ?_
  intro p e s m args below meth c s₁ B hml hv
  obtain ⟨rfl, hsz, hP, hK, hD0, hT, hN⟩ := hv
  have hx := B.exec
  have hb := B.bytes
  have hr := B.returns
  have hts : ∀ w ∈ wsA, w.before ([.ref (a1 0)] : List Value).toArray s = true := fun w h => atoms_spec (ws := wsX2_begin) B.pre w (List.mem_cons_of_mem _ h)
  have hown : s.vm.findClass RX2 = some m.cls := findClass_of_methodNamed B.named
  have hlocks := B.notSynchronized
  subst hsz
  have hD := hD0.self (sz := s.heap.size)
  generalize hAe : va_A (WDay z a1 m1) s.heap.size = A at hD hT ⊢
  have hA : ∀ q : Nat, s.heap.size ≤ q → A q := fun q h => by rw [← hAe]; exact Or.inr h
  have hS : va_S A s.heap s.heap [] := va_S.rf
  have hl := lv_entry ([.ref (a1 0)] : List Value) (n := 2) (Nat.le_of_ble_eq_true rfl)
  rw [lg_entry_eq]
  generalize (lg_sl ([.ref (a1 0)] : List Value) ++ List.replicate (2 - (lg_sl ([.ref (a1 0)] : List Value)).length) Slot.unset).toArray = ls at hl ⊢
  have hl : lv_has ls 2 [(0, .ref (a1 0))] := hl
  unfold pX2_begin at hf
  refine lv_aload_n hx hb dX2_begin_0 rfl (lv_at hl 0 rfl) ?_
  refine lv_iconst (v := 0) hx hb dX2_begin_1 (by decide) ?_
  refine z_put (ci := 2) (v := .int 0) (ty := .int) (C := RX2) (T := TX2) (N := 8) hx hb hts iX2 tyX2 tyX2_ok nmX2 hown hK hP hD hS 0 rfl rfl 6 (by decide) (hts _ aw170) (fun _ h9 => h9) rfl (by decide +kernel) rfl rfl (Nat.le_of_ble_eq_true rfl) dX2_begin_2 (fun (w9 : Mem) => (WDay z a1 w9)) (up2 m1 0 6 0) rfl (fun y1 ey1 H locs hP hD hS => ?_)
  have hf := lt_use ey1 hf
  refine lv_aload_n hx hb dX2_begin_5 rfl (lv_at hl 0 rfl) ?_
  refine lv_iconst (v := 0) hx hb dX2_begin_6 (by decide) ?_
  refine z_put (ci := 2) (v := .int 0) (ty := .int) (C := RX2) (T := TX2) (N := 8) hx hb hts iX2 tyX2 tyX2_ok nmX2 hown hK hP hD hS 0 rfl rfl 5 (by decide) (hts _ aw168) (fun _ h9 => h9) rfl (by decide +kernel) rfl rfl (Nat.le_of_ble_eq_true rfl) dX2_begin_7 (fun (w9 : Mem) => (WDay z a1 w9)) (up2 y1 0 5 0) rfl (fun y2 ey2 H locs hP hD hS => ?_)
  have hf := lt_use ey2 hf
  refine lv_iconst (v := 0) hx hb dX2_begin_10 (by decide) ?_
  refine lv_istore_n (lv' := [(1, .int 0), (0, .ref (a1 0))]) hx hb dX2_begin_11 rfl hl (by decide) rfl (fun ls hl => ?_)
  obtain ⟨F5, eF5, hf⟩ := zl2_use hf
  have L12_F5 : ∀ (n : Nat) (x3 : Int32) (y4 : Mem) (H : Heap) (locs : List Loc), va_P D vwCl (WDay z a1 y4) H → va_D A (WDay z a1 y4) → va_S A s.heap H locs → ∀ (ls : Array Slot), lv_has ls 2 [(0, .ref (a1 0)), (1, .int x3)] → zl2 F5 n x3 y4 = some m1' → GV p l e (headSpec wsX2_begin ({ frames := 1, cells := 0, slots := 0, locals := 20 } : Room)).room s m ([.ref (a1 0)] : List Value).toArray below meth c A D z (WDay z a1 m1') H locs (F0 m 12 ls []) := by
    intro n
    induction n with
    | zero =>
      intro x3 y4 H locs hP hD hS ls hl hf
      exact no_none hf
    | succ n ih7 =>
      intro x3 y4 H locs hP hD hS ls hl hf
      have hf := zl2_s eF5 hf
      refine lv_iload_n hx hb dX2_begin_12 rfl (lv_at hl 1 rfl) ?_
      refine lv_aload_n hx hb dX2_begin_13 rfl (lv_at hl 0 rfl) ?_
      refine va_get (D := D) (ci := 2) (v := .int (y4 0 4)) (C := RX2) (T := TX2) (N := 8) hx hb hts iX2 hown hK hP 0 rfl rfl 4 (by decide) (hts _ aw165) (fun _ h9 => h9) rfl dX2_begin_14 ?_
      refine lv_icmp_ge (tgt := 36) hx hb dX2_begin_17 (by decide) (fun c8 => ?_) (fun c8 => ?_)
      · have hf := if_t c8 hf
        refine lv_iconst (v := 0) hx hb dX2_begin_36 (by decide) ?_
        refine lv_istore_n (lv' := [(1, .int 0), (0, .ref (a1 0))]) hx hb dX2_begin_37 rfl hl (by decide) rfl (fun ls hl => ?_)
        obtain ⟨F11, eF11, hf⟩ := zl2_use hf
        have L38_F11 : ∀ (n : Nat) (x9 : Int32) (y10 : Mem) (H : Heap) (locs : List Loc), va_P D vwCl (WDay z a1 y10) H → va_D A (WDay z a1 y10) → va_S A s.heap H locs → ∀ (ls : Array Slot), lv_has ls 2 [(0, .ref (a1 0)), (1, .int x9)] → zl2 F11 n x9 y10 = some m1' → GV p l e (headSpec wsX2_begin ({ frames := 1, cells := 0, slots := 0, locals := 20 } : Room)).room s m ([.ref (a1 0)] : List Value).toArray below meth c A D z (WDay z a1 m1') H locs (F0 m 38 ls []) := by
          intro n
          induction n with
          | zero =>
            intro x9 y10 H locs hP hD hS ls hl hf
            exact no_none hf
          | succ n ih13 =>
            intro x9 y10 H locs hP hD hS ls hl hf
            have hf := zl2_s eF11 hf
            refine lv_iload_n hx hb dX2_begin_38 rfl (lv_at hl 1 rfl) ?_
            refine lv_aload_n hx hb dX2_begin_39 rfl (lv_at hl 0 rfl) ?_
            refine va_get (D := D) (ci := 2) (v := .ref (a1 14)) (C := RX2) (T := TX2) (N := 8) hx hb hts iX2 hown hK hP 0 rfl rfl 2 (by decide) (hts _ aw159) (fun _ h9 => h9) rfl dX2_begin_40 ?_
            refine z_alen hx hb hK hP 14 2 rfl rfl (v := 2) rfl dX2_begin_43 ?_
            refine lv_icmp_ge (tgt := 62) hx hb dX2_begin_44 (by decide) (fun c14 => ?_) (fun c14 => ?_)
            · have hf := if_t c14 hf
              obtain rfl := so1 hf
              exact ret_v hx hb hr hlocks hK hP hD hS dX2_begin_62
            · have hf := if_f c14 hf
              refine lv_aload_n hx hb dX2_begin_47 rfl (lv_at hl 0 rfl) ?_
              refine va_get (D := D) (ci := 2) (v := .ref (a1 14)) (C := RX2) (T := TX2) (N := 8) hx hb hts iX2 hown hK hP 0 rfl rfl 2 (by decide) (hts _ aw159) (fun _ h9 => h9) rfl dX2_begin_48 ?_
              refine lv_iload_n hx hb dX2_begin_51 rfl (lv_at hl 1 rfl) ?_
              obtain ⟨h15, hf⟩ := ck_use hf
              refine z_ald hx hb hK hP 14 2 (C := "FilledForOne$Kettle") (g := (fun j => a1 (3 + j))) rfl rfl h15 dX2_begin_52 ?_
              obtain ⟨y16, q17, hf⟩ := bd_use hf
              obtain ⟨y18, ey18⟩ : ∃ w : Mem, w = va_up y10 (3 + x9.toNatClampNeg) y16 := ⟨_, rfl⟩
              have hf := lt_use ey18 hf
              have hfo : Foc (WDay z a1 y10) (WKet (a1 (3 + x9.toNatClampNeg)) (y10 (3 + x9.toNatClampNeg))) (WDay z a1 y18) (WKet (a1 (3 + x9.toNatClampNeg)) y16) := (foc_el (WDay_k z a1 y10 (vp_lt h15)) (by rw [ey18]; exact WDay_sk z a1 y10 y16 (vp_lt h15)))
              refine z_goV (ws1 := (WDay z a1 y18)) (va_runV (As := []) (rest := []) ⟨hx, hb, hml, hown, hts⟩ (tX3_begin l D z tt (a1 (3 + x9.toNatClampNeg)) (y10 (3 + x9.toNatClampNeg))  fu y16 q17 _) (cwV 0 hts (gV4 aw511 aw512 aw513 aw48 aw514) rfl rfl rfl (by decide +kernel) ⟨Nat.le_of_ble_eq_true rfl, Nat.le_of_ble_eq_true rfl⟩) (z_preV hK hP hD hS hA hT hN hfo (va_recv hK hP (ci := 3) (q0 := (3 + x9.toNatClampNeg)) rfl (WDay_k z a1 y10 (vp_lt h15)))) rfl rfl hl.1 rfl (lv_room (Nat.le_of_ble_eq_true rfl)) dX2_begin_53 ⟨Nat.zero_le _, Nat.zero_le _⟩) hP hD hS hA hfo (fun H locs hP hD hS => ?_)
              obtain ⟨x19, ex19⟩ : ∃ y : Int32, y = x9 + 1 := ⟨_, rfl⟩
              have hf := lt_use ex19 hf
              refine lv_iinc (v := x19) (lv' := [(1, .int x19), (0, .ref (a1 0))]) hx hb dX2_begin_56 hl (k := 1) rfl (by rw [ex19]; rfl) (by decide) rfl (fun ls hl => ?_)
              refine lv_goto (tgt := 38) hx hb dX2_begin_59 (by decide) ?_
              exact ih13 _ _ _ _ hP hD hS _ (lv_sub hl [1, 0] rfl) hf
        exact L38_F11 fu _ _ _ _ hP hD hS _ (lv_sub hl [1, 0] rfl) hf
      · have hf := if_f c8 hf
        refine lv_aload_n hx hb dX2_begin_20 rfl (lv_at hl 0 rfl) ?_
        refine va_get (D := D) (ci := 2) (v := .ref (a1 13)) (C := RX2) (T := TX2) (N := 8) hx hb hts iX2 hown hK hP 0 rfl rfl 1 (by decide) (hts _ aw154) (fun _ h9 => h9) rfl dX2_begin_21 ?_
        refine lv_iload_n hx hb dX2_begin_24 rfl (lv_at hl 1 rfl) ?_
        obtain ⟨h20, hf⟩ := ck_use hf
        refine z_ald hx hb hK hP 13 1 (C := "FilledForOne$Comer") (g := (fun j => a1 (5 + j))) rfl rfl h20 dX2_begin_25 ?_
        refine lv_iconst (v := 0) hx hb dX2_begin_26 (by decide) ?_
        refine z_put (ci := 1) (v := .int 0) (ty := .int) (C := RX1) (T := TX1) (N := 7) hx hb hts iX1 tyX1 tyX1_ok nmX1 hown hK hP hD hS (5 + x3.toNatClampNeg) (WDay_c z a1 y4 (vp_lt h20)) rfl 5 (by decide) (hts _ aw103) (fun _ h9 => h9) rfl (by decide +kernel) rfl rfl (Nat.le_of_ble_eq_true rfl) dX2_begin_27 (fun (w9 : Mem) => (WDay z a1 w9)) (up2 y4 (5 + x3.toNatClampNeg) 5 0) (WDay_sc z a1 y4 (upd (y4 (5 + x3.toNatClampNeg)) 5 0) (vp_lt h20)) (fun y21 ey21 H locs hP hD hS => ?_)
        have hf := lt_use ey21 hf
        obtain ⟨x22, ex22⟩ : ∃ y : Int32, y = x3 + 1 := ⟨_, rfl⟩
        have hf := lt_use ex22 hf
        refine lv_iinc (v := x22) (lv' := [(1, .int x22), (0, .ref (a1 0))]) hx hb dX2_begin_30 hl (k := 1) rfl (by rw [ex22]; rfl) (by decide) rfl (fun ls hl => ?_)
        refine lv_goto (tgt := 12) hx hb dX2_begin_33 (by decide) ?_
        exact ih7 _ _ _ _ hP hD hS _ (lv_sub hl [1, 0] rfl) hf
  exact L12_F5 fu _ _ _ _ hP hD hS _ (lv_sub hl [1, 0] rfl) hf
def pX2_hasComer (fu : Nat) (m1 : Mem) (p1 : Int32) : Option Int32 :=
  if p1 < 0 then
    some 0
  else
    if (m1 0 4) ≤ p1 then
      some 0
    else
      some 1
set_option maxHeartbeats 4000000 in
set_option maxRecDepth 100000 in
theorem tX2_hasComer (l : Launch) (D : va_G) (z tt : Nat → Nat) (a1 : Nat → Nat) (m1 : Mem) (p1 : Int32) (fu : Nat) (rr : Int32) (hf : pX2_hasComer fu m1 p1 = some rr) : MetI l yX2_hasComer wsX2_hasComer ({ frames := 0, cells := 0, slots := 0, locals := 0 } : Room) D z tt ([.ref (a1 0), .int p1] : List Value) (WDay z a1 m1) rr (WDay z a1 m1) := by
  intro sz
  refine Met.ofW (cc := cX2_hasComer) (maxL := 2) (ret := (some .boolean)) (by decide) rfl ?_
  intro p e s m args below meth c s₁ B hml hv
  obtain ⟨rfl, hsz, hP, hK, hD0, hT, hN⟩ := hv
  have hx := B.exec
  have hb := B.bytes
  have hr := B.returns
  have hts : ∀ w ∈ wsA, w.before ([.ref (a1 0), .int p1] : List Value).toArray s = true := fun w h => atoms_spec (ws := wsX2_hasComer) B.pre w (List.mem_cons_of_mem _ h)
  have hown : s.vm.findClass RX2 = some m.cls := findClass_of_methodNamed B.named
  have hlocks := B.notSynchronized
  subst hsz
  have hD := hD0.self (sz := s.heap.size)
  generalize hAe : va_A (WDay z a1 m1) s.heap.size = A at hD hT ⊢
  have hA : ∀ q : Nat, s.heap.size ≤ q → A q := fun q h => by rw [← hAe]; exact Or.inr h
  have hS : va_S A s.heap s.heap [] := va_S.rf
  have hl := lv_entry ([.ref (a1 0), .int p1] : List Value) (n := 2) (Nat.le_of_ble_eq_true rfl)
  rw [lg_entry_eq]
  generalize (lg_sl ([.ref (a1 0), .int p1] : List Value) ++ List.replicate (2 - (lg_sl ([.ref (a1 0), .int p1] : List Value)).length) Slot.unset).toArray = ls at hl ⊢
  have hl : lv_has ls 2 [(0, .ref (a1 0)), (1, .int p1)] := hl
  unfold pX2_hasComer at hf
  refine lv_iload_n hx hb dX2_hasComer_0 rfl (lv_at hl 1 rfl) ?_
  refine lv_if_lt (tgt := 16) hx hb dX2_hasComer_1 (by decide) (fun c1 => ?_) (fun c1 => ?_)
  · have hf := if_t c1 hf
    refine lv_iconst (v := 0) hx hb dX2_hasComer_16 (by decide) ?_
    obtain rfl := so1 hf
    exact ret_z hx hb hr hlocks hK hP hD hS (by decide) dX2_hasComer_17
  · have hf := if_f c1 hf
    refine lv_iload_n hx hb dX2_hasComer_4 rfl (lv_at hl 1 rfl) ?_
    refine lv_aload_n hx hb dX2_hasComer_5 rfl (lv_at hl 0 rfl) ?_
    refine va_get (D := D) (ci := 2) (v := .int (m1 0 4)) (C := RX2) (T := TX2) (N := 8) hx hb hts iX2 hown hK hP 0 rfl rfl 4 (by decide) (hts _ aw165) (fun _ h9 => h9) rfl dX2_hasComer_6 ?_
    refine lv_icmp_ge (tgt := 16) hx hb dX2_hasComer_9 (by decide) (fun c2 => ?_) (fun c2 => ?_)
    · have hf := if_t c2 hf
      refine lv_iconst (v := 0) hx hb dX2_hasComer_16 (by decide) ?_
      obtain rfl := so1 hf
      exact ret_z hx hb hr hlocks hK hP hD hS (by decide) dX2_hasComer_17
    · have hf := if_f c2 hf
      refine lv_iconst (v := 1) hx hb dX2_hasComer_12 (by decide) ?_
      refine lv_goto (tgt := 17) hx hb dX2_hasComer_13 (by decide) ?_
      obtain rfl := so1 hf
      exact ret_z hx hb hr hlocks hK hP hD hS (by decide) dX2_hasComer_17
def pX2_kettlesInUse (fu : Nat) (m1 : Mem) : Option Int32 :=
  some (m1 1 7)
set_option maxHeartbeats 4000000 in
set_option maxRecDepth 100000 in
theorem tX2_kettlesInUse (l : Launch) (D : va_G) (z tt : Nat → Nat) (a1 : Nat → Nat) (m1 : Mem)  (fu : Nat) (rr : Int32) (hf : pX2_kettlesInUse fu m1 = some rr) : MetI l yX2_kettlesInUse wsX2_kettlesInUse ({ frames := 0, cells := 0, slots := 0, locals := 0 } : Room) D z tt ([.ref (a1 0)] : List Value) (WDay z a1 m1) rr (WDay z a1 m1) := by
  intro sz
  refine Met.ofW (cc := cX2_kettlesInUse) (maxL := 1) (ret := (some .int)) (by decide) rfl ?_
  intro p e s m args below meth c s₁ B hml hv
  obtain ⟨rfl, hsz, hP, hK, hD0, hT, hN⟩ := hv
  have hx := B.exec
  have hb := B.bytes
  have hr := B.returns
  have hts : ∀ w ∈ wsA, w.before ([.ref (a1 0)] : List Value).toArray s = true := fun w h => atoms_spec (ws := wsX2_kettlesInUse) B.pre w (List.mem_cons_of_mem _ h)
  have hown : s.vm.findClass RX2 = some m.cls := findClass_of_methodNamed B.named
  have hlocks := B.notSynchronized
  subst hsz
  have hD := hD0.self (sz := s.heap.size)
  generalize hAe : va_A (WDay z a1 m1) s.heap.size = A at hD hT ⊢
  have hA : ∀ q : Nat, s.heap.size ≤ q → A q := fun q h => by rw [← hAe]; exact Or.inr h
  have hS : va_S A s.heap s.heap [] := va_S.rf
  have hl := lv_entry ([.ref (a1 0)] : List Value) (n := 1) (Nat.le_of_ble_eq_true rfl)
  rw [lg_entry_eq]
  generalize (lg_sl ([.ref (a1 0)] : List Value) ++ List.replicate (1 - (lg_sl ([.ref (a1 0)] : List Value)).length) Slot.unset).toArray = ls at hl ⊢
  have hl : lv_has ls 1 [(0, .ref (a1 0))] := hl
  unfold pX2_kettlesInUse at hf
  refine lv_aload_n hx hb dX2_kettlesInUse_0 rfl (lv_at hl 0 rfl) ?_
  refine va_get (D := D) (ci := 2) (v := .ref (a1 1)) (C := RX2) (T := TX2) (N := 8) hx hb hts iX2 hown hK hP 0 rfl rfl 0 (by decide) (hts _ aw150) (fun _ h9 => h9) rfl dX2_kettlesInUse_1 ?_
  refine lv_bipush (v := 7) hx hb dX2_kettlesInUse_4 (by decide) ?_
  refine z_ialdc hx hb hK hP 1 rfl (i := 7) (k := 7) (by decide) (Nat.le_of_ble_eq_true rfl) dX2_kettlesInUse_6 ?_
  obtain rfl := so1 hf
  exact ret_i hx hb hr hlocks hK hP hD hS dX2_kettlesInUse_7
def pX2_highestLevel (fu : Nat) (m1 : Mem) : Option Int32 :=
  zl2 (fun g4 (x1 : Int32) (x2 : Int32) =>
    bd (pX2_kettlesInUse fu m1) fun r6 =>
    if r6 ≤ x2 then
      some x1
    else
      ck x2 2 <|
      lt' ((imax x1 (m1 (3 + x2.toNatClampNeg) 0)) : Int32) fun x10 =>
      lt' (x2 + 1) fun x11 =>
      g4 x10 x11) fu 0 0
set_option maxHeartbeats 4000000 in
set_option maxRecDepth 100000 in
theorem tX2_highestLevel (l : Launch) (D : va_G) (z tt : Nat → Nat) (a1 : Nat → Nat) (m1 : Mem)  (fu : Nat) (rr : Int32) (hf : pX2_highestLevel fu m1 = some rr) : MetI l yX2_highestLevel wsX2_highestLevel ({ frames := 1, cells := 0, slots := 0, locals := 20 } : Room) D z tt ([.ref (a1 0)] : List Value) (WDay z a1 m1) rr (WDay z a1 m1) := by
  intro sz
  refine Met.ofW (cc := cX2_highestLevel) (maxL := 3) (ret := (some .int)) (by decide) rfl ?_
  intro p e s m args below meth c s₁ B hml hv
  obtain ⟨rfl, hsz, hP, hK, hD0, hT, hN⟩ := hv
  have hx := B.exec
  have hb := B.bytes
  have hr := B.returns
  have hts : ∀ w ∈ wsA, w.before ([.ref (a1 0)] : List Value).toArray s = true := fun w h => atoms_spec (ws := wsX2_highestLevel) B.pre w (List.mem_cons_of_mem _ h)
  have hown : s.vm.findClass RX2 = some m.cls := findClass_of_methodNamed B.named
  have hlocks := B.notSynchronized
  subst hsz
  have hD := hD0.self (sz := s.heap.size)
  generalize hAe : va_A (WDay z a1 m1) s.heap.size = A at hD hT ⊢
  have hA : ∀ q : Nat, s.heap.size ≤ q → A q := fun q h => by rw [← hAe]; exact Or.inr h
  have hS : va_S A s.heap s.heap [] := va_S.rf
  have hl := lv_entry ([.ref (a1 0)] : List Value) (n := 3) (Nat.le_of_ble_eq_true rfl)
  rw [lg_entry_eq]
  generalize (lg_sl ([.ref (a1 0)] : List Value) ++ List.replicate (3 - (lg_sl ([.ref (a1 0)] : List Value)).length) Slot.unset).toArray = ls at hl ⊢
  have hl : lv_has ls 3 [(0, .ref (a1 0))] := hl
  unfold pX2_highestLevel at hf
  refine lv_iconst (v := 0) hx hb dX2_highestLevel_0 (by decide) ?_
  refine lv_istore_n (lv' := [(1, .int 0), (0, .ref (a1 0))]) hx hb dX2_highestLevel_1 rfl hl (by decide) rfl (fun ls hl => ?_)
  refine lv_iconst (v := 0) hx hb dX2_highestLevel_2 (by decide) ?_
  refine lv_istore_n (lv' := [(2, .int 0), (1, .int 0), (0, .ref (a1 0))]) hx hb dX2_highestLevel_3 rfl hl (by decide) rfl (fun ls hl => ?_)
  obtain ⟨F3, eF3, hf⟩ := zl2_use hf
  have L4_F3 : ∀ (n : Nat) (x1 : Int32) (x2 : Int32) (H : Heap) (locs : List Loc), va_P D vwCl (WDay z a1 m1) H → va_D A (WDay z a1 m1) → va_S A s.heap H locs → ∀ (ls : Array Slot), lv_has ls 3 [(0, .ref (a1 0)), (1, .int x1), (2, .int x2)] → zl2 F3 n x1 x2 = some rr → GI p l e (headSpec wsX2_highestLevel ({ frames := 1, cells := 0, slots := 0, locals := 20 } : Room)).room s m ([.ref (a1 0)] : List Value).toArray below meth c A D z rr (WDay z a1 m1) H locs (F0 m 4 ls []) := by
    intro n
    induction n with
    | zero =>
      intro x1 x2 H locs hP hD hS ls hl hf
      exact no_none hf
    | succ n ih5 =>
      intro x1 x2 H locs hP hD hS ls hl hf
      have hf := zl2_s eF3 hf
      refine lv_iload_n hx hb dX2_highestLevel_4 rfl (lv_at hl 2 rfl) ?_
      refine lv_aload_n hx hb dX2_highestLevel_5 rfl (lv_at hl 0 rfl) ?_
      obtain ⟨r6, q7, hf⟩ := bd_use hf
      have hfo : Foc (WDay z a1 m1) (WDay z a1 m1) (WDay z a1 m1) (WDay z a1 m1) := foc_all
      refine z_goI (ws1 := (WDay z a1 m1)) (va_runV (As := []) (rest := [.int x2]) ⟨hx, hb, hml, hown, hts⟩ (tX2_kettlesInUse l D z tt a1 m1  fu r6 q7 _) (cwV 0 hts (gV4 aw347 aw348 aw349 aw46 aw350) rfl rfl rfl (by decide +kernel) ⟨Nat.le_of_ble_eq_true rfl, Nat.le_of_ble_eq_true rfl⟩) (z_preV hK hP hD hS hA hT hN hfo (va_recv hK hP (ci := 2) (q0 := 0) rfl rfl)) rfl rfl hl.1 rfl (lv_room (Nat.le_of_ble_eq_true rfl)) dX2_highestLevel_6 ⟨Nat.zero_le _, Nat.zero_le _⟩) hP hD hS hA hfo (fun H locs hP hD hS => ?_)
      refine lv_icmp_ge (tgt := 32) hx hb dX2_highestLevel_9 (by decide) (fun c8 => ?_) (fun c8 => ?_)
      · have hf := if_t c8 hf
        refine lv_iload_n hx hb dX2_highestLevel_32 rfl (lv_at hl 1 rfl) ?_
        obtain rfl := so1 hf
        exact ret_i hx hb hr hlocks hK hP hD hS dX2_highestLevel_33
      · have hf := if_f c8 hf
        refine lv_iload_n hx hb dX2_highestLevel_12 rfl (lv_at hl 1 rfl) ?_
        refine lv_aload_n hx hb dX2_highestLevel_13 rfl (lv_at hl 0 rfl) ?_
        refine va_get (D := D) (ci := 2) (v := .ref (a1 14)) (C := RX2) (T := TX2) (N := 8) hx hb hts iX2 hown hK hP 0 rfl rfl 2 (by decide) (hts _ aw159) (fun _ h9 => h9) rfl dX2_highestLevel_14 ?_
        refine lv_iload_n hx hb dX2_highestLevel_17 rfl (lv_at hl 2 rfl) ?_
        obtain ⟨h9, hf⟩ := ck_use hf
        refine z_ald hx hb hK hP 14 2 (C := "FilledForOne$Kettle") (g := (fun j => a1 (3 + j))) rfl rfl h9 dX2_highestLevel_18 ?_
        refine va_get (D := D) (ci := 3) (v := .int (m1 (3 + x2.toNatClampNeg) 0)) (C := RX3) (T := TX3) (N := 5) hx hb hts iX3 hown hK hP (3 + x2.toNatClampNeg) (WDay_k z a1 m1 (vp_lt h9)) rfl 0 (by decide) (hts _ aw133) (fun _ h9 => h9) rfl dX2_highestLevel_19 ?_
        refine z_max hx hb (by rw [hml]; exact hl.1.symm) hown (hts _ aw351) (hts _ aw352) (hts _ aw54) (hts _ aw353) (Nat.le_of_ble_eq_true rfl) (Nat.le_of_ble_eq_true rfl) dX2_highestLevel_22 (Nat.zero_le _) (Nat.zero_le _) ?_
        refine lv_topi (fun x10 ex10 => ?_)
        have hf := lt_use ex10 hf
        refine lv_istore_n (lv' := [(1, .int x10), (0, .ref (a1 0)), (2, .int x2)]) hx hb dX2_highestLevel_25 rfl hl (by decide) rfl (fun ls hl => ?_)
        obtain ⟨x11, ex11⟩ : ∃ y : Int32, y = x2 + 1 := ⟨_, rfl⟩
        have hf := lt_use ex11 hf
        refine lv_iinc (v := x11) (lv' := [(2, .int x11), (1, .int x10), (0, .ref (a1 0))]) hx hb dX2_highestLevel_26 hl (k := 2) rfl (by rw [ex11]; rfl) (by decide) rfl (fun ls hl => ?_)
        refine lv_goto (tgt := 4) hx hb dX2_highestLevel_29 (by decide) ?_
        exact ih5 _ _ _ _ hP hD hS _ (lv_sub hl [2, 1, 0] rfl) hf
  exact L4_F3 fu _ _ _ _ hP hD hS _ (lv_sub hl [2, 1, 0] rfl) hf
def pX2_settingRefusal (fu : Nat) (m1 : Mem) (p1 : Int32) (p2 : Int32) : Option Int32 :=
  if p1 < 0 then
    some (-1)
  else
    if p1 < 8 then
      ck p1 8 <|
      if (List.getD [2, 0, 1, 1, 0, 0, 0, 1] p1.toNatClampNeg 0 : Int32) ≤ p2 then
        ck p1 8 <|
        if p2 ≤ (List.getD [11, 9, 20, 9, 9, 9, 11, 2] p1.toNatClampNeg 0 : Int32) then
          jn1 (fun (x7 : Int32) =>
            jn1 (fun (x9 : Int32) =>
              if x7 = 0 then
                if x9 = 0 then
                  some 0
                else
                  some (-3)
              else
                some (-3)) fun k10 =>
            if p1 = 7 then
              if p2 = (m1 1 7) then
                k10 0
              else
                if (m1 0 6) = 0 then
                  k10 0
                else
                  k10 1
            else
              k10 0) fun k8 =>
          if p1 = 0 then
            bd (pX2_highestLevel fu m1) fun r17 =>
            if r17 ≤ p2 then
              k8 0
            else
              k8 1
          else
            k8 0
        else
          some (-6)
      else
        some (-4)
    else
      some (-1)
set_option maxHeartbeats 4000000 in
set_option maxRecDepth 100000 in
theorem tX2_settingRefusal (l : Launch) (D : va_G) (z tt : Nat → Nat) (a1 : Nat → Nat) (m1 : Mem) (p1 : Int32) (p2 : Int32) (fu : Nat) (rr : Int32) (hf : pX2_settingRefusal fu m1 p1 p2 = some rr) : MetI l yX2_settingRefusal wsX2_settingRefusal ({ frames := 2, cells := 0, slots := 0, locals := 42 } : Room) D z tt ([.ref (a1 0), .int p1, .int p2] : List Value) (WDay z a1 m1) rr (WDay z a1 m1) := by
  intro sz
  refine Met.ofW (cc := cX2_settingRefusal) (maxL := 5) (ret := (some .int)) (by decide) rfl ?_
  intro p e s m args below meth c s₁ B hml hv
  obtain ⟨rfl, hsz, hP, hK, hD0, hT, hN⟩ := hv
  have hx := B.exec
  have hb := B.bytes
  have hr := B.returns
  have hts : ∀ w ∈ wsA, w.before ([.ref (a1 0), .int p1, .int p2] : List Value).toArray s = true := fun w h => atoms_spec (ws := wsX2_settingRefusal) B.pre w (List.mem_cons_of_mem _ h)
  have hown : s.vm.findClass RX2 = some m.cls := findClass_of_methodNamed B.named
  have hlocks := B.notSynchronized
  subst hsz
  have hD := hD0.self (sz := s.heap.size)
  generalize hAe : va_A (WDay z a1 m1) s.heap.size = A at hD hT ⊢
  have hA : ∀ q : Nat, s.heap.size ≤ q → A q := fun q h => by rw [← hAe]; exact Or.inr h
  have hS : va_S A s.heap s.heap [] := va_S.rf
  have hl := lv_entry ([.ref (a1 0), .int p1, .int p2] : List Value) (n := 5) (Nat.le_of_ble_eq_true rfl)
  rw [lg_entry_eq]
  generalize (lg_sl ([.ref (a1 0), .int p1, .int p2] : List Value) ++ List.replicate (5 - (lg_sl ([.ref (a1 0), .int p1, .int p2] : List Value)).length) Slot.unset).toArray = ls at hl ⊢
  have hl : lv_has ls 5 [(0, .ref (a1 0)), (1, .int p1), (2, .int p2)] := hl
  unfold pX2_settingRefusal at hf
  refine lv_iload_n hx hb dX2_settingRefusal_0 rfl (lv_at hl 1 rfl) ?_
  refine lv_if_lt (tgt := 13) hx hb dX2_settingRefusal_1 (by decide) (fun c1 => ?_) (fun c1 => ?_)
  · have hf := if_t c1 hf
    refine lv_iconst (v := (-1)) hx hb dX2_settingRefusal_13 (by decide) ?_
    obtain rfl := so1 hf
    exact ret_i hx hb hr hlocks hK hP hD hS dX2_settingRefusal_14
  · have hf := if_f c1 hf
    refine lv_iload_n hx hb dX2_settingRefusal_4 rfl (lv_at hl 1 rfl) ?_
    refine lv_aload_n hx hb dX2_settingRefusal_5 rfl (lv_at hl 0 rfl) ?_
    refine va_get (D := D) (ci := 2) (v := .ref (a1 1)) (C := RX2) (T := TX2) (N := 8) hx hb hts iX2 hown hK hP 0 rfl rfl 0 (by decide) (hts _ aw150) (fun _ h9 => h9) rfl dX2_settingRefusal_6 ?_
    refine z_alen hx hb hK hP 1 0 rfl rfl (v := 8) rfl dX2_settingRefusal_9 ?_
    refine lv_icmp_lt (tgt := 15) hx hb dX2_settingRefusal_10 (by decide) (fun c2 => ?_) (fun c2 => ?_)
    · have hf := if_t c2 hf
      refine lv_iload_n hx hb dX2_settingRefusal_15 rfl (lv_at hl 2 rfl) ?_
      refine va_getsN (v := .ref (tt 1)) (host := "FilledForOne") hx hb hT.2.1.1 hS hown (va_Nw.use rfl hN.2.2.2.2.2.1) (fun _ h9 => h9) dX2_settingRefusal_16 ?_
      refine lv_iload_n hx hb dX2_settingRefusal_19 rfl (lv_at hl 1 rfl) ?_
      obtain ⟨h3, hf⟩ := ck_use hf
      refine va_ti hx hb hT.2.1.2 hS h3 (v := .int (List.getD [2, 0, 1, 1, 0, 0, 0, 1] p1.toNatClampNeg 0 : Int32)) rfl dX2_settingRefusal_20 ?_
      refine lv_icmp_ge (tgt := 27) hx hb dX2_settingRefusal_21 (by decide) (fun c4 => ?_) (fun c4 => ?_)
      · have hf := if_t c4 hf
        refine lv_iload_n hx hb dX2_settingRefusal_27 rfl (lv_at hl 2 rfl) ?_
        refine va_getsN (v := .ref (tt 2)) (host := "FilledForOne") hx hb hT.2.2.1 hS hown (va_Nw.use rfl hN.2.2.2.2.2.2.1) (fun _ h9 => h9) dX2_settingRefusal_28 ?_
        refine lv_iload_n hx hb dX2_settingRefusal_31 rfl (lv_at hl 1 rfl) ?_
        obtain ⟨h5, hf⟩ := ck_use hf
        refine va_ti hx hb hT.2.2.2 hS h5 (v := .int (List.getD [11, 9, 20, 9, 9, 9, 11, 2] p1.toNatClampNeg 0 : Int32)) rfl dX2_settingRefusal_32 ?_
        refine lv_icmp_le (tgt := 39) hx hb dX2_settingRefusal_33 (by decide) (fun c6 => ?_) (fun c6 => ?_)
        · have hf := if_t c6 hf
          refine lv_iload_n hx hb dX2_settingRefusal_39 rfl (lv_at hl 1 rfl) ?_
          obtain ⟨k8, ek8, hf⟩ := jn1_use hf
          have B56_k8 : ∀ (x7 : Int32) (H : Heap) (locs : List Loc), va_P D vwCl (WDay z a1 m1) H → va_D A (WDay z a1 m1) → va_S A s.heap H locs → ∀ (ls : Array Slot), lv_has ls 5 [(0, .ref (a1 0)), (1, .int p1), (2, .int p2)] → k8 x7 = some rr → GI p l e (headSpec wsX2_settingRefusal ({ frames := 2, cells := 0, slots := 0, locals := 42 } : Room)).room s m ([.ref (a1 0), .int p1, .int p2] : List Value).toArray below meth c A D z rr (WDay z a1 m1) H locs (F0 m 56 ls [.int x7]) := by
            intro x7 H locs hP hD hS ls hl hf
            have hf := jn1_ap ek8 hf
            refine lv_istore_n (lv' := [(3, .int x7), (0, .ref (a1 0)), (1, .int p1), (2, .int p2)]) hx hb dX2_settingRefusal_56 rfl hl (by decide) rfl (fun ls hl => ?_)
            refine lv_iload_n hx hb dX2_settingRefusal_57 rfl (lv_at hl 2 rfl) ?_
            refine lv_bipush (v := 7) hx hb dX2_settingRefusal_58 (by decide) ?_
            obtain ⟨k10, ek10, hf⟩ := jn1_use hf
            have B86_k10 : ∀ (x9 : Int32) (H : Heap) (locs : List Loc), va_P D vwCl (WDay z a1 m1) H → va_D A (WDay z a1 m1) → va_S A s.heap H locs → ∀ (ls : Array Slot), lv_has ls 5 [(3, .int x7)] → k10 x9 = some rr → GI p l e (headSpec wsX2_settingRefusal ({ frames := 2, cells := 0, slots := 0, locals := 42 } : Room)).room s m ([.ref (a1 0), .int p1, .int p2] : List Value).toArray below meth c A D z rr (WDay z a1 m1) H locs (F0 m 86 ls [.int x9]) := by
              intro x9 H locs hP hD hS ls hl hf
              have hf := jn1_ap ek10 hf
              refine lv_istore (lv' := [(4, .int x9), (3, .int x7)]) hx hb dX2_settingRefusal_86 hl (by decide) rfl (fun ls hl => ?_)
              refine lv_iload_n hx hb dX2_settingRefusal_88 rfl (lv_at hl 1 rfl) ?_
              refine lv_if_ne (tgt := 97) hx hb dX2_settingRefusal_89 (by decide) (fun c11 => ?_) (fun c11 => ?_)
              · have hf := if_f c11 hf
                refine lv_bipush (v := (-3)) hx hb dX2_settingRefusal_97 (by decide) ?_
                refine lv_goto (tgt := 103) hx hb dX2_settingRefusal_99 (by decide) ?_
                obtain rfl := so1 hf
                exact ret_i hx hb hr hlocks hK hP hD hS dX2_settingRefusal_103
              · have hf := if_t c11 hf
                refine lv_iload hx hb dX2_settingRefusal_92 (lv_at hl 0 rfl) ?_
                refine lv_if_eq (tgt := 102) hx hb dX2_settingRefusal_94 (by decide) (fun c12 => ?_) (fun c12 => ?_)
                · have hf := if_t c12 hf
                  refine lv_iconst (v := 0) hx hb dX2_settingRefusal_102 (by decide) ?_
                  obtain rfl := so1 hf
                  exact ret_i hx hb hr hlocks hK hP hD hS dX2_settingRefusal_103
                · have hf := if_f c12 hf
                  refine lv_bipush (v := (-3)) hx hb dX2_settingRefusal_97 (by decide) ?_
                  refine lv_goto (tgt := 103) hx hb dX2_settingRefusal_99 (by decide) ?_
                  obtain rfl := so1 hf
                  exact ret_i hx hb hr hlocks hK hP hD hS dX2_settingRefusal_103
            refine lv_icmp_ne (tgt := 85) hx hb dX2_settingRefusal_60 (by decide) (fun c13 => ?_) (fun c13 => ?_)
            · have hf := if_f c13 hf
              refine lv_iconst (v := 0) hx hb dX2_settingRefusal_85 (by decide) ?_
              exact B86_k10 _ _ _ hP hD hS _ (lv_sub hl [0] rfl) hf
            · have hf := if_t c13 hf
              refine lv_iload_n hx hb dX2_settingRefusal_63 rfl (lv_at hl 3 rfl) ?_
              refine lv_aload_n hx hb dX2_settingRefusal_64 rfl (lv_at hl 1 rfl) ?_
              refine va_get (D := D) (ci := 2) (v := .ref (a1 1)) (C := RX2) (T := TX2) (N := 8) hx hb hts iX2 hown hK hP 0 rfl rfl 0 (by decide) (hts _ aw150) (fun _ h9 => h9) rfl dX2_settingRefusal_65 ?_
              refine lv_bipush (v := 7) hx hb dX2_settingRefusal_68 (by decide) ?_
              refine z_ialdc hx hb hK hP 1 rfl (i := 7) (k := 7) (by decide) (Nat.le_of_ble_eq_true rfl) dX2_settingRefusal_70 ?_
              refine lv_icmp_eq (tgt := 85) hx hb dX2_settingRefusal_71 (by decide) (fun c14 => ?_) (fun c14 => ?_)
              · have hf := if_t c14 hf
                refine lv_iconst (v := 0) hx hb dX2_settingRefusal_85 (by decide) ?_
                exact B86_k10 _ _ _ hP hD hS _ (lv_sub hl [0] rfl) hf
              · have hf := if_f c14 hf
                refine lv_aload_n hx hb dX2_settingRefusal_74 rfl (lv_at hl 1 rfl) ?_
                refine va_get (D := D) (ci := 2) (v := .int (m1 0 6)) (C := RX2) (T := TX2) (N := 8) hx hb hts iX2 hown hK hP 0 rfl rfl 6 (by decide) (hts _ aw170) (fun _ h9 => h9) rfl dX2_settingRefusal_75 ?_
                refine lv_if_eq (tgt := 85) hx hb dX2_settingRefusal_78 (by decide) (fun c15 => ?_) (fun c15 => ?_)
                · have hf := if_t c15 hf
                  refine lv_iconst (v := 0) hx hb dX2_settingRefusal_85 (by decide) ?_
                  exact B86_k10 _ _ _ hP hD hS _ (lv_sub hl [0] rfl) hf
                · have hf := if_f c15 hf
                  refine lv_iconst (v := 1) hx hb dX2_settingRefusal_81 (by decide) ?_
                  refine lv_goto (tgt := 86) hx hb dX2_settingRefusal_82 (by decide) ?_
                  exact B86_k10 _ _ _ hP hD hS _ (lv_sub hl [0] rfl) hf
          refine lv_if_ne (tgt := 55) hx hb dX2_settingRefusal_40 (by decide) (fun c16 => ?_) (fun c16 => ?_)
          · have hf := if_f c16 hf
            refine lv_iconst (v := 0) hx hb dX2_settingRefusal_55 (by decide) ?_
            exact B56_k8 _ _ _ hP hD hS _ (lv_sub hl [0, 1, 2] rfl) hf
          · have hf := if_t c16 hf
            refine lv_iload_n hx hb dX2_settingRefusal_43 rfl (lv_at hl 2 rfl) ?_
            refine lv_aload_n hx hb dX2_settingRefusal_44 rfl (lv_at hl 0 rfl) ?_
            obtain ⟨r17, q18, hf⟩ := bd_use hf
            have hfo : Foc (WDay z a1 m1) (WDay z a1 m1) (WDay z a1 m1) (WDay z a1 m1) := foc_all
            refine z_goI (ws1 := (WDay z a1 m1)) (va_runV (As := []) (rest := [.int p2]) ⟨hx, hb, hml, hown, hts⟩ (tX2_highestLevel l D z tt a1 m1  fu r17 q18 _) (cwV 0 hts (gV4 aw343 aw344 aw345 aw46 aw346) rfl rfl rfl (by decide +kernel) ⟨Nat.le_of_ble_eq_true rfl, Nat.le_of_ble_eq_true rfl⟩) (z_preV hK hP hD hS hA hT hN hfo (va_recv hK hP (ci := 2) (q0 := 0) rfl rfl)) rfl rfl hl.1 rfl (lv_room (Nat.le_of_ble_eq_true rfl)) dX2_settingRefusal_45 ⟨Nat.zero_le _, Nat.zero_le _⟩) hP hD hS hA hfo (fun H locs hP hD hS => ?_)
            refine lv_icmp_ge (tgt := 55) hx hb dX2_settingRefusal_48 (by decide) (fun c19 => ?_) (fun c19 => ?_)
            · have hf := if_t c19 hf
              refine lv_iconst (v := 0) hx hb dX2_settingRefusal_55 (by decide) ?_
              exact B56_k8 _ _ _ hP hD hS _ (lv_sub hl [0, 1, 2] rfl) hf
            · have hf := if_f c19 hf
              refine lv_iconst (v := 1) hx hb dX2_settingRefusal_51 (by decide) ?_
              refine lv_goto (tgt := 56) hx hb dX2_settingRefusal_52 (by decide) ?_
              exact B56_k8 _ _ _ hP hD hS _ (lv_sub hl [0, 1, 2] rfl) hf
        · have hf := if_f c6 hf
          refine lv_bipush (v := (-6)) hx hb dX2_settingRefusal_36 (by decide) ?_
          obtain rfl := so1 hf
          exact ret_i hx hb hr hlocks hK hP hD hS dX2_settingRefusal_38
      · have hf := if_f c4 hf
        refine lv_bipush (v := (-4)) hx hb dX2_settingRefusal_24 (by decide) ?_
        obtain rfl := so1 hf
        exact ret_i hx hb hr hlocks hK hP hD hS dX2_settingRefusal_26
    · have hf := if_f c2 hf
      refine lv_iconst (v := (-1)) hx hb dX2_settingRefusal_13 (by decide) ?_
      obtain rfl := so1 hf
      exact ret_i hx hb hr hlocks hK hP hD hS dX2_settingRefusal_14
def pX2_change (fu : Nat) (m1 : Mem) (p1 : Int32) (p2 : Int32) : Option (Int32 × Mem) :=
  ck p1 8 <|
  lt' ((m1 1 p1.toNatClampNeg) : Int32) fun x2 =>
  ck p1 8 <|
  lt' (up2 m1 1 p1.toNatClampNeg p2) fun y3 =>
  some (x2, y3)
set_option maxHeartbeats 4000000 in
set_option maxRecDepth 100000 in
theorem tX2_change (l : Launch) (D : va_G) (z tt : Nat → Nat) (a1 : Nat → Nat) (m1 : Mem) (p1 : Int32) (p2 : Int32) (fu : Nat) (rr : Int32) (m1' : Mem) (hf : pX2_change fu m1 p1 p2 = some (rr, m1')) : MetI l yX2_change wsX2_change ({ frames := 0, cells := 0, slots := 0, locals := 0 } : Room) D z tt ([.ref (a1 0), .int p1, .int p2] : List Value) (WDay z a1 m1) rr (WDay z a1 m1') := by
  intro sz
  refine Met.ofW (cc := cX2_change) (maxL := 4) (ret := (some .int)) (by decide) rfl ?_
  intro p e s m args below meth c s₁ B hml hv
  obtain ⟨rfl, hsz, hP, hK, hD0, hT, hN⟩ := hv
  have hx := B.exec
  have hb := B.bytes
  have hr := B.returns
  have hts : ∀ w ∈ wsA, w.before ([.ref (a1 0), .int p1, .int p2] : List Value).toArray s = true := fun w h => atoms_spec (ws := wsX2_change) B.pre w (List.mem_cons_of_mem _ h)
  have hown : s.vm.findClass RX2 = some m.cls := findClass_of_methodNamed B.named
  have hlocks := B.notSynchronized
  subst hsz
  have hD := hD0.self (sz := s.heap.size)
  generalize hAe : va_A (WDay z a1 m1) s.heap.size = A at hD hT ⊢
  have hA : ∀ q : Nat, s.heap.size ≤ q → A q := fun q h => by rw [← hAe]; exact Or.inr h
  have hS : va_S A s.heap s.heap [] := va_S.rf
  have hl := lv_entry ([.ref (a1 0), .int p1, .int p2] : List Value) (n := 4) (Nat.le_of_ble_eq_true rfl)
  rw [lg_entry_eq]
  generalize (lg_sl ([.ref (a1 0), .int p1, .int p2] : List Value) ++ List.replicate (4 - (lg_sl ([.ref (a1 0), .int p1, .int p2] : List Value)).length) Slot.unset).toArray = ls at hl ⊢
  have hl : lv_has ls 4 [(0, .ref (a1 0)), (1, .int p1), (2, .int p2)] := hl
  unfold pX2_change at hf
  refine lv_aload_n hx hb dX2_change_0 rfl (lv_at hl 0 rfl) ?_
  refine va_get (D := D) (ci := 2) (v := .ref (a1 1)) (C := RX2) (T := TX2) (N := 8) hx hb hts iX2 hown hK hP 0 rfl rfl 0 (by decide) (hts _ aw150) (fun _ h9 => h9) rfl dX2_change_1 ?_
  refine lv_iload_n hx hb dX2_change_4 rfl (lv_at hl 1 rfl) ?_
  obtain ⟨h1, hf⟩ := ck_use hf
  refine z_iald hx hb hK hP 1 rfl h1 dX2_change_5 ?_
  refine lv_topi (fun x2 ex2 => ?_)
  have hf := lt_use ex2 hf
  refine lv_istore_n (lv' := [(3, .int x2), (0, .ref (a1 0)), (1, .int p1), (2, .int p2)]) hx hb dX2_change_6 rfl hl (by decide) rfl (fun ls hl => ?_)
  refine lv_aload_n hx hb dX2_change_7 rfl (lv_at hl 1 rfl) ?_
  refine va_get (D := D) (ci := 2) (v := .ref (a1 1)) (C := RX2) (T := TX2) (N := 8) hx hb hts iX2 hown hK hP 0 rfl rfl 0 (by decide) (hts _ aw150) (fun _ h9 => h9) rfl dX2_change_8 ?_
  refine lv_iload_n hx hb dX2_change_11 rfl (lv_at hl 2 rfl) ?_
  refine lv_iload_n hx hb dX2_change_12 rfl (lv_at hl 3 rfl) ?_
  obtain ⟨h4, hf⟩ := ck_use hf
  refine z_iast hx hb hK hP hD hS 1 rfl h4 dX2_change_13 (fun (w9 : Mem) => (WDay z a1 w9)) (up2 m1 1 p1.toNatClampNeg p2) rfl (fun y3 ey3 H locs hP hD hS => ?_)
  have hf := lt_use ey3 hf
  refine lv_iload_n hx hb dX2_change_14 rfl (lv_at hl 0 rfl) ?_
  obtain ⟨rfl, rfl⟩ := so2 hf
  exact ret_i hx hb hr hlocks hK hP hD hS dX2_change_15
def pX2_add (fu : Nat) (m1 : Mem) (p1 : Int32) (p2 : Int32) (p3 : Int32) (p4 : Int32) (p5 : Int32) : Option (Int32 × Mem) :=
  jn1 (fun (x1 : Int32) =>
    if x1 = 0 then
      ckz x1 <| some (x1, m1)
    else
      ck (m1 0 4) 8 <|
      bd (pX1_become fu (m1 (5 + (m1 0 4).toNatClampNeg)) p1 p2) fun y6 =>
      lt' (va_up m1 (5 + (m1 0 4).toNatClampNeg) y6) fun y8 =>
      lt' (up2 y8 (5 + (m1 0 4).toNatClampNeg) 2 p3) fun y9 =>
      lt' (up2 y9 (5 + (m1 0 4).toNatClampNeg) 3 p4) fun y10 =>
      lt' (up2 y10 (5 + (m1 0 4).toNatClampNeg) 4 p5) fun y11 =>
      lt' (up2 y11 (5 + (m1 0 4).toNatClampNeg) 5 0) fun y12 =>
      lt' (up2 y12 0 4 ((y12 0 4) + 1)) fun y13 =>
      ckz x1 <| some (x1, y13)) fun k2 =>
  if 8 ≤ (m1 0 4) then
    k2 0
  else
    if 7 ≤ p1 then
      k2 0
    else
      if 120 ≤ p3 then
        k2 0
      else
        if p3 < (m1 0 6) then
          k2 0
        else
          if p4 < 1 then
            k2 0
          else
            if 3 < p4 then
              k2 0
            else
              if 30 < p5 then
                k2 0
              else
                k2 1
set_option maxHeartbeats 4000000 in
set_option maxRecDepth 100000 in
theorem tX2_add (l : Launch) (D : va_G) (z tt : Nat → Nat) (a1 : Nat → Nat) (m1 : Mem) (p1 : Int32) (p2 : Int32) (p3 : Int32) (p4 : Int32) (p5 : Int32) (fu : Nat) (rr : Int32) (m1' : Mem) (hf : pX2_add fu m1 p1 p2 p3 p4 p5 = some (rr, m1')) : MetI l yX2_add wsX2_add ({ frames := 1, cells := 0, slots := 0, locals := 22 } : Room) D z tt ([.ref (a1 0), .int p1, .int p2, .int p3, .int p4, .int p5] : List Value) (WDay z a1 m1) rr (WDay z a1 m1') := by
  intro sz
  refine Met.ofW (cc := cX2_add) (maxL := 8) (ret := (some .boolean)) (by decide) rfl ?_
  intro p e s m args below meth c s₁ B hml hv
  obtain ⟨rfl, hsz, hP, hK, hD0, hT, hN⟩ := hv
  have hx := B.exec
  have hb := B.bytes
  have hr := B.returns
  have hts : ∀ w ∈ wsA, w.before ([.ref (a1 0), .int p1, .int p2, .int p3, .int p4, .int p5] : List Value).toArray s = true := fun w h => atoms_spec (ws := wsX2_add) B.pre w (List.mem_cons_of_mem _ h)
  have hown : s.vm.findClass RX2 = some m.cls := findClass_of_methodNamed B.named
  have hlocks := B.notSynchronized
  subst hsz
  have hD := hD0.self (sz := s.heap.size)
  generalize hAe : va_A (WDay z a1 m1) s.heap.size = A at hD hT ⊢
  have hA : ∀ q : Nat, s.heap.size ≤ q → A q := fun q h => by rw [← hAe]; exact Or.inr h
  have hS : va_S A s.heap s.heap [] := va_S.rf
  have hl := lv_entry ([.ref (a1 0), .int p1, .int p2, .int p3, .int p4, .int p5] : List Value) (n := 8) (Nat.le_of_ble_eq_true rfl)
  rw [lg_entry_eq]
  generalize (lg_sl ([.ref (a1 0), .int p1, .int p2, .int p3, .int p4, .int p5] : List Value) ++ List.replicate (8 - (lg_sl ([.ref (a1 0), .int p1, .int p2, .int p3, .int p4, .int p5] : List Value)).length) Slot.unset).toArray = ls at hl ⊢
  have hl : lv_has ls 8 [(0, .ref (a1 0)), (1, .int p1), (2, .int p2), (3, .int p3), (4, .int p4), (5, .int p5)] := hl
  unfold pX2_add at hf
  refine lv_aload_n hx hb dX2_add_0 rfl (lv_at hl 0 rfl) ?_
  refine va_get (D := D) (ci := 2) (v := .int (m1 0 4)) (C := RX2) (T := TX2) (N := 8) hx hb hts iX2 hown hK hP 0 rfl rfl 4 (by decide) (hts _ aw165) (fun _ h9 => h9) rfl dX2_add_1 ?_
  refine lv_aload_n hx hb dX2_add_4 rfl (lv_at hl 0 rfl) ?_
  refine va_get (D := D) (ci := 2) (v := .ref (a1 13)) (C := RX2) (T := TX2) (N := 8) hx hb hts iX2 hown hK hP 0 rfl rfl 1 (by decide) (hts _ aw154) (fun _ h9 => h9) rfl dX2_add_5 ?_
  refine z_alen hx hb hK hP 13 1 rfl rfl (v := 8) rfl dX2_add_8 ?_
  obtain ⟨k2, ek2, hf⟩ := jn1_use hf
  have B56_k2 : ∀ (x1 : Int32) (H : Heap) (locs : List Loc), va_P D vwCl (WDay z a1 m1) H → va_D A (WDay z a1 m1) → va_S A s.heap H locs → ∀ (ls : Array Slot), lv_has ls 8 [(0, .ref (a1 0)), (1, .int p1), (2, .int p2), (3, .int p3), (4, .int p4), (5, .int p5)] → k2 x1 = some (rr, m1') → GI p l e (headSpec wsX2_add ({ frames := 1, cells := 0, slots := 0, locals := 22 } : Room)).room s m ([.ref (a1 0), .int p1, .int p2, .int p3, .int p4, .int p5] : List Value).toArray below meth c A D z rr (WDay z a1 m1') H locs (F0 m 56 ls [.int x1]) := by
    intro x1 H locs hP hD hS ls hl hf
    have hf := jn1_ap ek2 hf
    refine lv_istore (lv' := [(6, .int x1), (0, .ref (a1 0)), (1, .int p1), (2, .int p2), (3, .int p3), (4, .int p4), (5, .int p5)]) hx hb dX2_add_56 hl (by decide) rfl (fun ls hl => ?_)
    refine lv_iload hx hb dX2_add_58 (lv_at hl 0 rfl) ?_
    refine lv_if_eq (tgt := 117) hx hb dX2_add_60 (by decide) (fun c3 => ?_) (fun c3 => ?_)
    · have hf := if_t c3 hf
      refine lv_iload hx hb dX2_add_117 (lv_at hl 0 rfl) ?_
      obtain ⟨h4, hf⟩ := ckz_use hf
      obtain ⟨rfl, rfl⟩ := so2 hf
      exact ret_z hx hb hr hlocks hK hP hD hS h4 dX2_add_119
    · have hf := if_f c3 hf
      refine lv_aload_n hx hb dX2_add_63 rfl (lv_at hl 1 rfl) ?_
      refine va_get (D := D) (ci := 2) (v := .ref (a1 13)) (C := RX2) (T := TX2) (N := 8) hx hb hts iX2 hown hK hP 0 rfl rfl 1 (by decide) (hts _ aw154) (fun _ h9 => h9) rfl dX2_add_64 ?_
      refine lv_aload_n hx hb dX2_add_67 rfl (lv_at hl 1 rfl) ?_
      refine va_get (D := D) (ci := 2) (v := .int (m1 0 4)) (C := RX2) (T := TX2) (N := 8) hx hb hts iX2 hown hK hP 0 rfl rfl 4 (by decide) (hts _ aw165) (fun _ h9 => h9) rfl dX2_add_68 ?_
      obtain ⟨h5, hf⟩ := ck_use hf
      refine z_ald hx hb hK hP 13 1 (C := "FilledForOne$Comer") (g := (fun j => a1 (5 + j))) rfl rfl h5 dX2_add_71 ?_
      refine lv_astore (lv' := [(7, .ref (a1 (5 + (m1 0 4).toNatClampNeg))), (6, .int x1), (0, .ref (a1 0)), (1, .int p1), (2, .int p2), (3, .int p3), (4, .int p4), (5, .int p5)]) hx hb dX2_add_72 hl (by decide) rfl (fun ls hl => ?_)
      refine lv_aload hx hb dX2_add_74 (lv_at hl 0 rfl) ?_
      refine lv_iload_n hx hb dX2_add_76 rfl (lv_at hl 3 rfl) ?_
      refine lv_iload_n hx hb dX2_add_77 rfl (lv_at hl 4 rfl) ?_
      obtain ⟨y6, q7, hf⟩ := bd_use hf
      obtain ⟨y8, ey8⟩ : ∃ w : Mem, w = va_up m1 (5 + (m1 0 4).toNatClampNeg) y6 := ⟨_, rfl⟩
      have hf := lt_use ey8 hf
      have hfo : Foc (WDay z a1 m1) (WCom (a1 (5 + (m1 0 4).toNatClampNeg)) (m1 (5 + (m1 0 4).toNatClampNeg))) (WDay z a1 y8) (WCom (a1 (5 + (m1 0 4).toNatClampNeg)) y6) := (foc_el (WDay_c z a1 m1 (vp_lt h5)) (by rw [ey8]; exact WDay_sc z a1 m1 y6 (vp_lt h5)))
      refine z_goV (ws1 := (WDay z a1 y8)) (va_runV (As := [.int p1, .int p2]) (rest := []) ⟨hx, hb, hml, hown, hts⟩ (tX1_become l D z tt (a1 (5 + (m1 0 4).toNatClampNeg)) (m1 (5 + (m1 0 4).toNatClampNeg)) p1 p2 fu y6 q7 _) (cwV 2 hts (gV4 aw362 aw300 aw301 aw47 aw302) rfl rfl rfl (by decide +kernel) ⟨Nat.le_of_ble_eq_true rfl, Nat.le_of_ble_eq_true rfl⟩) (z_preV hK hP hD hS hA hT hN hfo (va_recv hK hP (ci := 1) (q0 := (5 + (m1 0 4).toNatClampNeg)) rfl (WDay_c z a1 m1 (vp_lt h5)))) rfl rfl hl.1 rfl (lv_room (Nat.le_of_ble_eq_true rfl)) dX2_add_78 ⟨Nat.zero_le _, Nat.zero_le _⟩) hP hD hS hA hfo (fun H locs hP hD hS => ?_)
      refine lv_aload hx hb dX2_add_81 (lv_at hl 0 rfl) ?_
      refine lv_iload_n hx hb dX2_add_83 rfl (lv_at hl 5 rfl) ?_
      refine z_put (ci := 1) (v := .int p3) (ty := .int) (C := RX1) (T := TX1) (N := 7) hx hb hts iX1 tyX1 tyX1_ok nmX1 hown hK hP hD hS (5 + (m1 0 4).toNatClampNeg) (WDay_c z a1 y8 (vp_lt h5)) rfl 2 (by decide) (hts _ aw95) (fun _ h9 => h9) rfl (by decide +kernel) rfl rfl (Nat.le_of_ble_eq_true rfl) dX2_add_84 (fun (w9 : Mem) => (WDay z a1 w9)) (up2 y8 (5 + (m1 0 4).toNatClampNeg) 2 p3) (WDay_sc z a1 y8 (upd (y8 (5 + (m1 0 4).toNatClampNeg)) 2 p3) (vp_lt h5)) (fun y9 ey9 H locs hP hD hS => ?_)
      have hf := lt_use ey9 hf
      refine lv_aload hx hb dX2_add_87 (lv_at hl 0 rfl) ?_
      refine lv_iload hx hb dX2_add_89 (lv_at hl 6 rfl) ?_
      refine z_put (ci := 1) (v := .int p4) (ty := .int) (C := RX1) (T := TX1) (N := 7) hx hb hts iX1 tyX1 tyX1_ok nmX1 hown hK hP hD hS (5 + (m1 0 4).toNatClampNeg) (WDay_c z a1 y9 (vp_lt h5)) rfl 3 (by decide) (hts _ aw99) (fun _ h9 => h9) rfl (by decide +kernel) rfl rfl (Nat.le_of_ble_eq_true rfl) dX2_add_91 (fun (w9 : Mem) => (WDay z a1 w9)) (up2 y9 (5 + (m1 0 4).toNatClampNeg) 3 p4) (WDay_sc z a1 y9 (upd (y9 (5 + (m1 0 4).toNatClampNeg)) 3 p4) (vp_lt h5)) (fun y10 ey10 H locs hP hD hS => ?_)
      have hf := lt_use ey10 hf
      refine lv_aload hx hb dX2_add_94 (lv_at hl 0 rfl) ?_
      refine lv_iload hx hb dX2_add_96 (lv_at hl 7 rfl) ?_
      refine z_put (ci := 1) (v := .int p5) (ty := .int) (C := RX1) (T := TX1) (N := 7) hx hb hts iX1 tyX1 tyX1_ok nmX1 hown hK hP hD hS (5 + (m1 0 4).toNatClampNeg) (WDay_c z a1 y10 (vp_lt h5)) rfl 4 (by decide) (hts _ aw101) (fun _ h9 => h9) rfl (by decide +kernel) rfl rfl (Nat.le_of_ble_eq_true rfl) dX2_add_98 (fun (w9 : Mem) => (WDay z a1 w9)) (up2 y10 (5 + (m1 0 4).toNatClampNeg) 4 p5) (WDay_sc z a1 y10 (upd (y10 (5 + (m1 0 4).toNatClampNeg)) 4 p5) (vp_lt h5)) (fun y11 ey11 H locs hP hD hS => ?_)
      have hf := lt_use ey11 hf
      refine lv_aload hx hb dX2_add_101 (lv_at hl 0 rfl) ?_
      refine lv_iconst (v := 0) hx hb dX2_add_103 (by decide) ?_
      refine z_put (ci := 1) (v := .int 0) (ty := .int) (C := RX1) (T := TX1) (N := 7) hx hb hts iX1 tyX1 tyX1_ok nmX1 hown hK hP hD hS (5 + (m1 0 4).toNatClampNeg) (WDay_c z a1 y11 (vp_lt h5)) rfl 5 (by decide) (hts _ aw103) (fun _ h9 => h9) rfl (by decide +kernel) rfl rfl (Nat.le_of_ble_eq_true rfl) dX2_add_104 (fun (w9 : Mem) => (WDay z a1 w9)) (up2 y11 (5 + (m1 0 4).toNatClampNeg) 5 0) (WDay_sc z a1 y11 (upd (y11 (5 + (m1 0 4).toNatClampNeg)) 5 0) (vp_lt h5)) (fun y12 ey12 H locs hP hD hS => ?_)
      have hf := lt_use ey12 hf
      refine lv_aload_n hx hb dX2_add_107 rfl (lv_at hl 2 rfl) ?_
      refine lv_dup hx hb dX2_add_108 rfl ?_
      refine va_get (D := D) (ci := 2) (v := .int (y12 0 4)) (C := RX2) (T := TX2) (N := 8) hx hb hts iX2 hown hK hP 0 rfl rfl 4 (by decide) (hts _ aw165) (fun _ h9 => h9) rfl dX2_add_109 ?_
      refine lv_iconst (v := 1) hx hb dX2_add_112 (by decide) ?_
      refine lv_iadd hx hb dX2_add_113 ?_
      refine z_put (ci := 2) (v := .int ((y12 0 4) + 1)) (ty := .int) (C := RX2) (T := TX2) (N := 8) hx hb hts iX2 tyX2 tyX2_ok nmX2 hown hK hP hD hS 0 rfl rfl 4 (by decide) (hts _ aw165) (fun _ h9 => h9) rfl (by decide +kernel) rfl rfl (Nat.le_of_ble_eq_true rfl) dX2_add_114 (fun (w9 : Mem) => (WDay z a1 w9)) (up2 y12 0 4 ((y12 0 4) + 1)) rfl (fun y13 ey13 H locs hP hD hS => ?_)
      have hf := lt_use ey13 hf
      refine lv_iload hx hb dX2_add_117 (lv_at hl 1 rfl) ?_
      obtain ⟨h14, hf⟩ := ckz_use hf
      obtain ⟨rfl, rfl⟩ := so2 hf
      exact ret_z hx hb hr hlocks hK hP hD hS h14 dX2_add_119
  refine lv_icmp_ge (tgt := 55) hx hb dX2_add_9 (by decide) (fun c15 => ?_) (fun c15 => ?_)
  · have hf := if_t c15 hf
    refine lv_iconst (v := 0) hx hb dX2_add_55 (by decide) ?_
    exact B56_k2 _ _ _ hP hD hS _ (lv_sub hl [0, 1, 2, 3, 4, 5] rfl) hf
  · have hf := if_f c15 hf
    refine lv_iload_n hx hb dX2_add_12 rfl (lv_at hl 1 rfl) ?_
    refine lv_bipush (v := 7) hx hb dX2_add_13 (by decide) ?_
    refine lv_icmp_ge (tgt := 55) hx hb dX2_add_15 (by decide) (fun c16 => ?_) (fun c16 => ?_)
    · have hf := if_t c16 hf
      refine lv_iconst (v := 0) hx hb dX2_add_55 (by decide) ?_
      exact B56_k2 _ _ _ hP hD hS _ (lv_sub hl [0, 1, 2, 3, 4, 5] rfl) hf
    · have hf := if_f c16 hf
      refine lv_iload_n hx hb dX2_add_18 rfl (lv_at hl 3 rfl) ?_
      refine lv_bipush (v := 120) hx hb dX2_add_19 (by decide) ?_
      refine lv_icmp_ge (tgt := 55) hx hb dX2_add_21 (by decide) (fun c17 => ?_) (fun c17 => ?_)
      · have hf := if_t c17 hf
        refine lv_iconst (v := 0) hx hb dX2_add_55 (by decide) ?_
        exact B56_k2 _ _ _ hP hD hS _ (lv_sub hl [0, 1, 2, 3, 4, 5] rfl) hf
      · have hf := if_f c17 hf
        refine lv_iload_n hx hb dX2_add_24 rfl (lv_at hl 3 rfl) ?_
        refine lv_aload_n hx hb dX2_add_25 rfl (lv_at hl 0 rfl) ?_
        refine va_get (D := D) (ci := 2) (v := .int (m1 0 6)) (C := RX2) (T := TX2) (N := 8) hx hb hts iX2 hown hK hP 0 rfl rfl 6 (by decide) (hts _ aw170) (fun _ h9 => h9) rfl dX2_add_26 ?_
        refine lv_icmp_lt (tgt := 55) hx hb dX2_add_29 (by decide) (fun c18 => ?_) (fun c18 => ?_)
        · have hf := if_t c18 hf
          refine lv_iconst (v := 0) hx hb dX2_add_55 (by decide) ?_
          exact B56_k2 _ _ _ hP hD hS _ (lv_sub hl [0, 1, 2, 3, 4, 5] rfl) hf
        · have hf := if_f c18 hf
          refine lv_iload hx hb dX2_add_32 (lv_at hl 4 rfl) ?_
          refine lv_iconst (v := 1) hx hb dX2_add_34 (by decide) ?_
          refine lv_icmp_lt (tgt := 55) hx hb dX2_add_35 (by decide) (fun c19 => ?_) (fun c19 => ?_)
          · have hf := if_t c19 hf
            refine lv_iconst (v := 0) hx hb dX2_add_55 (by decide) ?_
            exact B56_k2 _ _ _ hP hD hS _ (lv_sub hl [0, 1, 2, 3, 4, 5] rfl) hf
          · have hf := if_f c19 hf
            refine lv_iload hx hb dX2_add_38 (lv_at hl 4 rfl) ?_
            refine lv_iconst (v := 3) hx hb dX2_add_40 (by decide) ?_
            refine lv_icmp_gt (tgt := 55) hx hb dX2_add_41 (by decide) (fun c20 => ?_) (fun c20 => ?_)
            · have hf := if_t c20 hf
              refine lv_iconst (v := 0) hx hb dX2_add_55 (by decide) ?_
              exact B56_k2 _ _ _ hP hD hS _ (lv_sub hl [0, 1, 2, 3, 4, 5] rfl) hf
            · have hf := if_f c20 hf
              refine lv_iload hx hb dX2_add_44 (lv_at hl 5 rfl) ?_
              refine lv_bipush (v := 30) hx hb dX2_add_46 (by decide) ?_
              refine lv_icmp_gt (tgt := 55) hx hb dX2_add_48 (by decide) (fun c21 => ?_) (fun c21 => ?_)
              · have hf := if_t c21 hf
                refine lv_iconst (v := 0) hx hb dX2_add_55 (by decide) ?_
                exact B56_k2 _ _ _ hP hD hS _ (lv_sub hl [0, 1, 2, 3, 4, 5] rfl) hf
              · have hf := if_f c21 hf
                refine lv_iconst (v := 1) hx hb dX2_add_51 (by decide) ?_
                refine lv_goto (tgt := 56) hx hb dX2_add_52 (by decide) ?_
                exact B56_k2 _ _ _ hP hD hS _ (lv_sub hl [0, 1, 2, 3, 4, 5] rfl) hf
def pX2_comersWith (fu : Nat) (m1 : Mem) (p1 : Int32) : Option Int32 :=
  zl2 (fun g4 (x1 : Int32) (x2 : Int32) =>
    if (m1 0 4) ≤ x2 then
      some x1
    else
      ck x2 8 <|
      if (m1 (5 + x2.toNatClampNeg) 5) = p1 then
        lt' (x1 + 1) fun x10 =>
        lt' (x2 + 1) fun x11 =>
        g4 x10 x11
      else
        lt' (x2 + 1) fun x9 =>
        g4 x1 x9) fu 0 0
set_option maxHeartbeats 4000000 in
set_option maxRecDepth 100000 in
theorem tX2_comersWith (l : Launch) (D : va_G) (z tt : Nat → Nat) (a1 : Nat → Nat) (m1 : Mem) (p1 : Int32) (fu : Nat) (rr : Int32) (hf : pX2_comersWith fu m1 p1 = some rr) : MetI l yX2_comersWith wsX2_comersWith ({ frames := 0, cells := 0, slots := 0, locals := 0 } : Room) D z tt ([.ref (a1 0), .int p1] : List Value) (WDay z a1 m1) rr (WDay z a1 m1) := by
  intro sz
  refine Met.ofW (cc := cX2_comersWith) (maxL := 4) (ret := (some .int)) (by decide) rfl ?_
  intro p e s m args below meth c s₁ B hml hv
  obtain ⟨rfl, hsz, hP, hK, hD0, hT, hN⟩ := hv
  have hx := B.exec
  have hb := B.bytes
  have hr := B.returns
  have hts : ∀ w ∈ wsA, w.before ([.ref (a1 0), .int p1] : List Value).toArray s = true := fun w h => atoms_spec (ws := wsX2_comersWith) B.pre w (List.mem_cons_of_mem _ h)
  have hown : s.vm.findClass RX2 = some m.cls := findClass_of_methodNamed B.named
  have hlocks := B.notSynchronized
  subst hsz
  have hD := hD0.self (sz := s.heap.size)
  generalize hAe : va_A (WDay z a1 m1) s.heap.size = A at hD hT ⊢
  have hA : ∀ q : Nat, s.heap.size ≤ q → A q := fun q h => by rw [← hAe]; exact Or.inr h
  have hS : va_S A s.heap s.heap [] := va_S.rf
  have hl := lv_entry ([.ref (a1 0), .int p1] : List Value) (n := 4) (Nat.le_of_ble_eq_true rfl)
  rw [lg_entry_eq]
  generalize (lg_sl ([.ref (a1 0), .int p1] : List Value) ++ List.replicate (4 - (lg_sl ([.ref (a1 0), .int p1] : List Value)).length) Slot.unset).toArray = ls at hl ⊢
  have hl : lv_has ls 4 [(0, .ref (a1 0)), (1, .int p1)] := hl
  unfold pX2_comersWith at hf
  refine lv_iconst (v := 0) hx hb dX2_comersWith_0 (by decide) ?_
  refine lv_istore_n (lv' := [(2, .int 0), (0, .ref (a1 0)), (1, .int p1)]) hx hb dX2_comersWith_1 rfl hl (by decide) rfl (fun ls hl => ?_)
  refine lv_iconst (v := 0) hx hb dX2_comersWith_2 (by decide) ?_
  refine lv_istore_n (lv' := [(3, .int 0), (2, .int 0), (0, .ref (a1 0)), (1, .int p1)]) hx hb dX2_comersWith_3 rfl hl (by decide) rfl (fun ls hl => ?_)
  obtain ⟨F3, eF3, hf⟩ := zl2_use hf
  have L4_F3 : ∀ (n : Nat) (x1 : Int32) (x2 : Int32) (H : Heap) (locs : List Loc), va_P D vwCl (WDay z a1 m1) H → va_D A (WDay z a1 m1) → va_S A s.heap H locs → ∀ (ls : Array Slot), lv_has ls 4 [(0, .ref (a1 0)), (1, .int p1), (2, .int x1), (3, .int x2)] → zl2 F3 n x1 x2 = some rr → GI p l e (headSpec wsX2_comersWith ({ frames := 0, cells := 0, slots := 0, locals := 0 } : Room)).room s m ([.ref (a1 0), .int p1] : List Value).toArray below meth c A D z rr (WDay z a1 m1) H locs (F0 m 4 ls []) := by
    intro n
    induction n with
    | zero =>
      intro x1 x2 H locs hP hD hS ls hl hf
      exact no_none hf
    | succ n ih5 =>
      intro x1 x2 H locs hP hD hS ls hl hf
      have hf := zl2_s eF3 hf
      refine lv_iload_n hx hb dX2_comersWith_4 rfl (lv_at hl 3 rfl) ?_
      refine lv_aload_n hx hb dX2_comersWith_5 rfl (lv_at hl 0 rfl) ?_
      refine va_get (D := D) (ci := 2) (v := .int (m1 0 4)) (C := RX2) (T := TX2) (N := 8) hx hb hts iX2 hown hK hP 0 rfl rfl 4 (by decide) (hts _ aw165) (fun _ h9 => h9) rfl dX2_comersWith_6 ?_
      refine lv_icmp_ge (tgt := 34) hx hb dX2_comersWith_9 (by decide) (fun c6 => ?_) (fun c6 => ?_)
      · have hf := if_t c6 hf
        refine lv_iload_n hx hb dX2_comersWith_34 rfl (lv_at hl 2 rfl) ?_
        obtain rfl := so1 hf
        exact ret_i hx hb hr hlocks hK hP hD hS dX2_comersWith_35
      · have hf := if_f c6 hf
        refine lv_aload_n hx hb dX2_comersWith_12 rfl (lv_at hl 0 rfl) ?_
        refine va_get (D := D) (ci := 2) (v := .ref (a1 13)) (C := RX2) (T := TX2) (N := 8) hx hb hts iX2 hown hK hP 0 rfl rfl 1 (by decide) (hts _ aw154) (fun _ h9 => h9) rfl dX2_comersWith_13 ?_
        refine lv_iload_n hx hb dX2_comersWith_16 rfl (lv_at hl 3 rfl) ?_
        obtain ⟨h7, hf⟩ := ck_use hf
        refine z_ald hx hb hK hP 13 1 (C := "FilledForOne$Comer") (g := (fun j => a1 (5 + j))) rfl rfl h7 dX2_comersWith_17 ?_
        refine va_get (D := D) (ci := 1) (v := .int (m1 (5 + x2.toNatClampNeg) 5)) (C := RX1) (T := TX1) (N := 7) hx hb hts iX1 hown hK hP (5 + x2.toNatClampNeg) (WDay_c z a1 m1 (vp_lt h7)) rfl 5 (by decide) (hts _ aw103) (fun _ h9 => h9) rfl dX2_comersWith_18 ?_
        refine lv_iload_n hx hb dX2_comersWith_21 rfl (lv_at hl 1 rfl) ?_
        refine lv_icmp_ne (tgt := 28) hx hb dX2_comersWith_22 (by decide) (fun c8 => ?_) (fun c8 => ?_)
        · have hf := if_f c8 hf
          obtain ⟨x9, ex9⟩ : ∃ y : Int32, y = x2 + 1 := ⟨_, rfl⟩
          have hf := lt_use ex9 hf
          refine lv_iinc (v := x9) (lv' := [(3, .int x9), (0, .ref (a1 0)), (1, .int p1), (2, .int x1)]) hx hb dX2_comersWith_28 hl (k := 3) rfl (by rw [ex9]; rfl) (by decide) rfl (fun ls hl => ?_)
          refine lv_goto (tgt := 4) hx hb dX2_comersWith_31 (by decide) ?_
          exact ih5 _ _ _ _ hP hD hS _ (lv_sub hl [1, 2, 3, 0] rfl) hf
        · have hf := if_t c8 hf
          obtain ⟨x10, ex10⟩ : ∃ y : Int32, y = x1 + 1 := ⟨_, rfl⟩
          have hf := lt_use ex10 hf
          refine lv_iinc (v := x10) (lv' := [(2, .int x10), (0, .ref (a1 0)), (1, .int p1), (3, .int x2)]) hx hb dX2_comersWith_25 hl (k := 2) rfl (by rw [ex10]; rfl) (by decide) rfl (fun ls hl => ?_)
          obtain ⟨x11, ex11⟩ : ∃ y : Int32, y = x2 + 1 := ⟨_, rfl⟩
          have hf := lt_use ex11 hf
          refine lv_iinc (v := x11) (lv' := [(3, .int x11), (2, .int x10), (0, .ref (a1 0)), (1, .int p1)]) hx hb dX2_comersWith_28 hl (k := 3) rfl (by rw [ex11]; rfl) (by decide) rfl (fun ls hl => ?_)
          refine lv_goto (tgt := 4) hx hb dX2_comersWith_31 (by decide) ?_
          exact ih5 _ _ _ _ hP hD hS _ (lv_sub hl [2, 3, 1, 0] rfl) hf
  exact L4_F3 fu _ _ _ _ hP hD hS _ (lv_sub hl [2, 3, 1, 0] rfl) hf
def pX2_allFree (fu : Nat) (m1 : Mem) : Option Int32 :=
  zl1 (fun g3 (x1 : Int32) =>
    bd (pX2_kettlesInUse fu m1) fun r5 =>
    if r5 ≤ x1 then
      some 1
    else
      ck x1 2 <|
      bd (pX3_isFree fu (m1 (3 + x1.toNatClampNeg)) (m1 0 6)) fun r9 =>
      if r9 = 0 then
        some 0
      else
        lt' (x1 + 1) fun x12 =>
        g3 x12) fu 0
set_option maxHeartbeats 4000000 in
set_option maxRecDepth 100000 in
theorem tX2_allFree (l : Launch) (D : va_G) (z tt : Nat → Nat) (a1 : Nat → Nat) (m1 : Mem)  (fu : Nat) (rr : Int32) (hf : pX2_allFree fu m1 = some rr) : MetI l yX2_allFree wsX2_allFree ({ frames := 1, cells := 0, slots := 0, locals := 21 } : Room) D z tt ([.ref (a1 0)] : List Value) (WDay z a1 m1) rr (WDay z a1 m1) := by
  intro sz
  refine Met.ofW (cc := cX2_allFree) (maxL := 2) (ret := (some .boolean)) (by decide) rfl ?_
  intro p e s m args below meth c s₁ B hml hv
  obtain ⟨rfl, hsz, hP, hK, hD0, hT, hN⟩ := hv
  have hx := B.exec
  have hb := B.bytes
  have hr := B.returns
  have hts : ∀ w ∈ wsA, w.before ([.ref (a1 0)] : List Value).toArray s = true := fun w h => atoms_spec (ws := wsX2_allFree) B.pre w (List.mem_cons_of_mem _ h)
  have hown : s.vm.findClass RX2 = some m.cls := findClass_of_methodNamed B.named
  have hlocks := B.notSynchronized
  subst hsz
  have hD := hD0.self (sz := s.heap.size)
  generalize hAe : va_A (WDay z a1 m1) s.heap.size = A at hD hT ⊢
  have hA : ∀ q : Nat, s.heap.size ≤ q → A q := fun q h => by rw [← hAe]; exact Or.inr h
  have hS : va_S A s.heap s.heap [] := va_S.rf
  have hl := lv_entry ([.ref (a1 0)] : List Value) (n := 2) (Nat.le_of_ble_eq_true rfl)
  rw [lg_entry_eq]
  generalize (lg_sl ([.ref (a1 0)] : List Value) ++ List.replicate (2 - (lg_sl ([.ref (a1 0)] : List Value)).length) Slot.unset).toArray = ls at hl ⊢
  have hl : lv_has ls 2 [(0, .ref (a1 0))] := hl
  unfold pX2_allFree at hf
  refine lv_iconst (v := 0) hx hb dX2_allFree_0 (by decide) ?_
  refine lv_istore_n (lv' := [(1, .int 0), (0, .ref (a1 0))]) hx hb dX2_allFree_1 rfl hl (by decide) rfl (fun ls hl => ?_)
  obtain ⟨F2, eF2, hf⟩ := zl1_use hf
  have L2_F2 : ∀ (n : Nat) (x1 : Int32) (H : Heap) (locs : List Loc), va_P D vwCl (WDay z a1 m1) H → va_D A (WDay z a1 m1) → va_S A s.heap H locs → ∀ (ls : Array Slot), lv_has ls 2 [(0, .ref (a1 0)), (1, .int x1)] → zl1 F2 n x1 = some rr → GI p l e (headSpec wsX2_allFree ({ frames := 1, cells := 0, slots := 0, locals := 21 } : Room)).room s m ([.ref (a1 0)] : List Value).toArray below meth c A D z rr (WDay z a1 m1) H locs (F0 m 2 ls []) := by
    intro n
    induction n with
    | zero =>
      intro x1 H locs hP hD hS ls hl hf
      exact no_none hf
    | succ n ih4 =>
      intro x1 H locs hP hD hS ls hl hf
      have hf := zl1_s eF2 hf
      refine lv_iload_n hx hb dX2_allFree_2 rfl (lv_at hl 1 rfl) ?_
      refine lv_aload_n hx hb dX2_allFree_3 rfl (lv_at hl 0 rfl) ?_
      obtain ⟨r5, q6, hf⟩ := bd_use hf
      have hfo : Foc (WDay z a1 m1) (WDay z a1 m1) (WDay z a1 m1) (WDay z a1 m1) := foc_all
      refine z_goI (ws1 := (WDay z a1 m1)) (va_runV (As := []) (rest := [.int x1]) ⟨hx, hb, hml, hown, hts⟩ (tX2_kettlesInUse l D z tt a1 m1  fu r5 q6 _) (cwV 0 hts (gV4 aw347 aw348 aw349 aw46 aw350) rfl rfl rfl (by decide +kernel) ⟨Nat.le_of_ble_eq_true rfl, Nat.le_of_ble_eq_true rfl⟩) (z_preV hK hP hD hS hA hT hN hfo (va_recv hK hP (ci := 2) (q0 := 0) rfl rfl)) rfl rfl hl.1 rfl (lv_room (Nat.le_of_ble_eq_true rfl)) dX2_allFree_4 ⟨Nat.zero_le _, Nat.zero_le _⟩) hP hD hS hA hfo (fun H locs hP hD hS => ?_)
      refine lv_icmp_ge (tgt := 34) hx hb dX2_allFree_7 (by decide) (fun c7 => ?_) (fun c7 => ?_)
      · have hf := if_t c7 hf
        refine lv_iconst (v := 1) hx hb dX2_allFree_34 (by decide) ?_
        obtain rfl := so1 hf
        exact ret_z hx hb hr hlocks hK hP hD hS (by decide) dX2_allFree_35
      · have hf := if_f c7 hf
        refine lv_aload_n hx hb dX2_allFree_10 rfl (lv_at hl 0 rfl) ?_
        refine va_get (D := D) (ci := 2) (v := .ref (a1 14)) (C := RX2) (T := TX2) (N := 8) hx hb hts iX2 hown hK hP 0 rfl rfl 2 (by decide) (hts _ aw159) (fun _ h9 => h9) rfl dX2_allFree_11 ?_
        refine lv_iload_n hx hb dX2_allFree_14 rfl (lv_at hl 1 rfl) ?_
        obtain ⟨h8, hf⟩ := ck_use hf
        refine z_ald hx hb hK hP 14 2 (C := "FilledForOne$Kettle") (g := (fun j => a1 (3 + j))) rfl rfl h8 dX2_allFree_15 ?_
        refine lv_aload_n hx hb dX2_allFree_16 rfl (lv_at hl 0 rfl) ?_
        refine va_get (D := D) (ci := 2) (v := .int (m1 0 6)) (C := RX2) (T := TX2) (N := 8) hx hb hts iX2 hown hK hP 0 rfl rfl 6 (by decide) (hts _ aw170) (fun _ h9 => h9) rfl dX2_allFree_17 ?_
        obtain ⟨r9, q10, hf⟩ := bd_use hf
        have hfo : Foc (WDay z a1 m1) (WKet (a1 (3 + x1.toNatClampNeg)) (m1 (3 + x1.toNatClampNeg))) (WDay z a1 m1) (WKet (a1 (3 + x1.toNatClampNeg)) (m1 (3 + x1.toNatClampNeg))) := (foc_els (WDay_k z a1 m1 (vp_lt h8)))
        refine z_goI (ws1 := (WDay z a1 m1)) (va_runV (As := [.int (m1 0 6)]) (rest := []) ⟨hx, hb, hml, hown, hts⟩ (tX3_isFree l D z tt (a1 (3 + x1.toNatClampNeg)) (m1 (3 + x1.toNatClampNeg)) (m1 0 6) fu r9 q10 _) (cwV 1 hts (gV4 aw434 aw435 aw436 aw48 aw437) rfl rfl rfl (by decide +kernel) ⟨Nat.le_of_ble_eq_true rfl, Nat.le_of_ble_eq_true rfl⟩) (z_preV hK hP hD hS hA hT hN hfo (va_recv hK hP (ci := 3) (q0 := (3 + x1.toNatClampNeg)) rfl (WDay_k z a1 m1 (vp_lt h8)))) rfl rfl hl.1 rfl (lv_room (Nat.le_of_ble_eq_true rfl)) dX2_allFree_20 ⟨Nat.zero_le _, Nat.zero_le _⟩) hP hD hS hA hfo (fun H locs hP hD hS => ?_)
        refine lv_if_ne (tgt := 28) hx hb dX2_allFree_23 (by decide) (fun c11 => ?_) (fun c11 => ?_)
        · have hf := if_f c11 hf
          obtain ⟨x12, ex12⟩ : ∃ y : Int32, y = x1 + 1 := ⟨_, rfl⟩
          have hf := lt_use ex12 hf
          refine lv_iinc (v := x12) (lv' := [(1, .int x12), (0, .ref (a1 0))]) hx hb dX2_allFree_28 hl (k := 1) rfl (by rw [ex12]; rfl) (by decide) rfl (fun ls hl => ?_)
          refine lv_goto (tgt := 2) hx hb dX2_allFree_31 (by decide) ?_
          exact ih4 _ _ _ hP hD hS _ (lv_sub hl [1, 0] rfl) hf
        · have hf := if_t c11 hf
          refine lv_iconst (v := 0) hx hb dX2_allFree_26 (by decide) ?_
          obtain rfl := so1 hf
          exact ret_z hx hb hr hlocks hK hP hD hS (by decide) dX2_allFree_27
  exact L2_F2 fu _ _ _ hP hD hS _ (lv_sub hl [1, 0] rfl) hf
def pX2_isOver (fu : Nat) (m1 : Mem) : Option Int32 :=
  if 180 ≤ (m1 0 6) then
    some 1
  else
    if (m1 0 5) = 0 then
      bd (pX2_comersWith fu m1 0) fun r3 =>
      if r3 = 0 then
        bd (pX2_allFree fu m1) fun r6 =>
        if r6 = 0 then
          some 0
        else
          some 1
      else
        some 0
    else
      some 0
set_option maxHeartbeats 4000000 in
set_option maxRecDepth 100000 in
theorem tX2_isOver (l : Launch) (D : va_G) (z tt : Nat → Nat) (a1 : Nat → Nat) (m1 : Mem)  (fu : Nat) (rr : Int32) (hf : pX2_isOver fu m1 = some rr) : MetI l yX2_isOver wsX2_isOver ({ frames := 2, cells := 0, slots := 0, locals := 42 } : Room) D z tt ([.ref (a1 0)] : List Value) (WDay z a1 m1) rr (WDay z a1 m1) := by
  intro sz
  refine Met.ofW (cc := cX2_isOver) (maxL := 1) (ret := (some .boolean)) (by decide) rfl ?_
  intro p e s m args below meth c s₁ B hml hv
  obtain ⟨rfl, hsz, hP, hK, hD0, hT, hN⟩ := hv
  have hx := B.exec
  have hb := B.bytes
  have hr := B.returns
  have hts : ∀ w ∈ wsA, w.before ([.ref (a1 0)] : List Value).toArray s = true := fun w h => atoms_spec (ws := wsX2_isOver) B.pre w (List.mem_cons_of_mem _ h)
  have hown : s.vm.findClass RX2 = some m.cls := findClass_of_methodNamed B.named
  have hlocks := B.notSynchronized
  subst hsz
  have hD := hD0.self (sz := s.heap.size)
  generalize hAe : va_A (WDay z a1 m1) s.heap.size = A at hD hT ⊢
  have hA : ∀ q : Nat, s.heap.size ≤ q → A q := fun q h => by rw [← hAe]; exact Or.inr h
  have hS : va_S A s.heap s.heap [] := va_S.rf
  have hl := lv_entry ([.ref (a1 0)] : List Value) (n := 1) (Nat.le_of_ble_eq_true rfl)
  rw [lg_entry_eq]
  generalize (lg_sl ([.ref (a1 0)] : List Value) ++ List.replicate (1 - (lg_sl ([.ref (a1 0)] : List Value)).length) Slot.unset).toArray = ls at hl ⊢
  have hl : lv_has ls 1 [(0, .ref (a1 0))] := hl
  unfold pX2_isOver at hf
  refine lv_aload_n hx hb dX2_isOver_0 rfl (lv_at hl 0 rfl) ?_
  refine va_get (D := D) (ci := 2) (v := .int (m1 0 6)) (C := RX2) (T := TX2) (N := 8) hx hb hts iX2 hown hK hP 0 rfl rfl 6 (by decide) (hts _ aw170) (fun _ h9 => h9) rfl dX2_isOver_1 ?_
  refine lv_sipush (v := 180) hx hb dX2_isOver_4 (by decide) ?_
  refine lv_icmp_ge (tgt := 32) hx hb dX2_isOver_7 (by decide) (fun c1 => ?_) (fun c1 => ?_)
  · have hf := if_t c1 hf
    refine lv_iconst (v := 1) hx hb dX2_isOver_32 (by decide) ?_
    refine lv_goto (tgt := 37) hx hb dX2_isOver_33 (by decide) ?_
    obtain rfl := so1 hf
    exact ret_z hx hb hr hlocks hK hP hD hS (by decide) dX2_isOver_37
  · have hf := if_f c1 hf
    refine lv_aload_n hx hb dX2_isOver_10 rfl (lv_at hl 0 rfl) ?_
    refine va_get (D := D) (ci := 2) (v := .int (m1 0 5)) (C := RX2) (T := TX2) (N := 8) hx hb hts iX2 hown hK hP 0 rfl rfl 5 (by decide) (hts _ aw168) (fun _ h9 => h9) rfl dX2_isOver_11 ?_
    refine lv_if_ne (tgt := 36) hx hb dX2_isOver_14 (by decide) (fun c2 => ?_) (fun c2 => ?_)
    · have hf := if_f c2 hf
      refine lv_iconst (v := 0) hx hb dX2_isOver_36 (by decide) ?_
      obtain rfl := so1 hf
      exact ret_z hx hb hr hlocks hK hP hD hS (by decide) dX2_isOver_37
    · have hf := if_t c2 hf
      refine lv_aload_n hx hb dX2_isOver_17 rfl (lv_at hl 0 rfl) ?_
      refine lv_iconst (v := 0) hx hb dX2_isOver_18 (by decide) ?_
      obtain ⟨r3, q4, hf⟩ := bd_use hf
      have hfo : Foc (WDay z a1 m1) (WDay z a1 m1) (WDay z a1 m1) (WDay z a1 m1) := foc_all
      refine z_goI (ws1 := (WDay z a1 m1)) (va_runV (As := [.int 0]) (rest := []) ⟨hx, hb, hml, hown, hts⟩ (tX2_comersWith l D z tt a1 m1 0 fu r3 q4 _) (cwV 1 hts (gV4 aw426 aw427 aw428 aw46 aw429) rfl rfl rfl (by decide +kernel) ⟨Nat.le_of_ble_eq_true rfl, Nat.le_of_ble_eq_true rfl⟩) (z_preV hK hP hD hS hA hT hN hfo (va_recv hK hP (ci := 2) (q0 := 0) rfl rfl)) rfl rfl hl.1 rfl (lv_room (Nat.le_of_ble_eq_true rfl)) dX2_isOver_19 ⟨Nat.zero_le _, Nat.zero_le _⟩) hP hD hS hA hfo (fun H locs hP hD hS => ?_)
      refine lv_if_ne (tgt := 36) hx hb dX2_isOver_22 (by decide) (fun c5 => ?_) (fun c5 => ?_)
      · have hf := if_f c5 hf
        refine lv_iconst (v := 0) hx hb dX2_isOver_36 (by decide) ?_
        obtain rfl := so1 hf
        exact ret_z hx hb hr hlocks hK hP hD hS (by decide) dX2_isOver_37
      · have hf := if_t c5 hf
        refine lv_aload_n hx hb dX2_isOver_25 rfl (lv_at hl 0 rfl) ?_
        obtain ⟨r6, q7, hf⟩ := bd_use hf
        have hfo : Foc (WDay z a1 m1) (WDay z a1 m1) (WDay z a1 m1) (WDay z a1 m1) := foc_all
        refine z_goI (ws1 := (WDay z a1 m1)) (va_runV (As := []) (rest := []) ⟨hx, hb, hml, hown, hts⟩ (tX2_allFree l D z tt a1 m1  fu r6 q7 _) (cwV 0 hts (gV4 aw430 aw431 aw432 aw46 aw433) rfl rfl rfl (by decide +kernel) ⟨Nat.le_of_ble_eq_true rfl, Nat.le_of_ble_eq_true rfl⟩) (z_preV hK hP hD hS hA hT hN hfo (va_recv hK hP (ci := 2) (q0 := 0) rfl rfl)) rfl rfl hl.1 rfl (lv_room (Nat.le_of_ble_eq_true rfl)) dX2_isOver_26 ⟨Nat.zero_le _, Nat.zero_le _⟩) hP hD hS hA hfo (fun H locs hP hD hS => ?_)
        refine lv_if_eq (tgt := 36) hx hb dX2_isOver_29 (by decide) (fun c8 => ?_) (fun c8 => ?_)
        · have hf := if_t c8 hf
          refine lv_iconst (v := 0) hx hb dX2_isOver_36 (by decide) ?_
          obtain rfl := so1 hf
          exact ret_z hx hb hr hlocks hK hP hD hS (by decide) dX2_isOver_37
        · have hf := if_f c8 hf
          refine lv_iconst (v := 1) hx hb dX2_isOver_32 (by decide) ?_
          refine lv_goto (tgt := 37) hx hb dX2_isOver_33 (by decide) ?_
          obtain rfl := so1 hf
          exact ret_z hx hb hr hlocks hK hP hD hS (by decide) dX2_isOver_37
def pX2_lineUp (fu : Nat) (m1 : Mem) : Option Mem :=
  zl2 (fun g4 (x1 : Int32) (y2 : Mem) =>
    if (y2 0 4) ≤ x1 then
      some y2
    else
      ck x1 8 <|
      if (y2 (5 + x1.toNatClampNeg) 5) = 0 then
        ck x1 8 <|
        if (y2 (5 + x1.toNatClampNeg) 2) = (y2 0 6) then
          if 8 ≤ (y2 0 5) then
            lt' (x1 + 1) fun x14 =>
            g4 x14 y2
          else
            ck x1 8 <|
            lt' (up2 y2 (5 + x1.toNatClampNeg) 5 1) fun y16 =>
            ck (y16 0 5) 8 <|
            lt' (up2 y16 2 (y16 0 5).toNatClampNeg x1) fun y17 =>
            lt' (up2 y17 0 5 ((y17 0 5) + 1)) fun y19 =>
            lt' (x1 + 1) fun x20 =>
            g4 x20 y19
        else
          lt' (x1 + 1) fun x12 =>
          g4 x12 y2
      else
        lt' (x1 + 1) fun x9 =>
        g4 x9 y2) fu 0 m1
set_option maxHeartbeats 4000000 in
set_option maxRecDepth 100000 in
theorem tX2_lineUp (l : Launch) (D : va_G) (z tt : Nat → Nat) (a1 : Nat → Nat) (m1 : Mem)  (fu : Nat) (m1' : Mem) (hf : pX2_lineUp fu m1 = some m1') : MetV l yX2_lineUp wsX2_lineUp ({ frames := 0, cells := 0, slots := 0, locals := 0 } : Room) D z tt ([.ref (a1 0)] : List Value) (WDay z a1 m1) (WDay z a1 m1') := by
  intro sz
  refine Met.ofW (cc := cX2_lineUp) (maxL := 2) (ret := none) (by decide) rfl ?_
  intro p e s m args below meth c s₁ B hml hv
  obtain ⟨rfl, hsz, hP, hK, hD0, hT, hN⟩ := hv
  have hx := B.exec
  have hb := B.bytes
  have hr := B.returns
  have hts : ∀ w ∈ wsA, w.before ([.ref (a1 0)] : List Value).toArray s = true := fun w h => atoms_spec (ws := wsX2_lineUp) B.pre w (List.mem_cons_of_mem _ h)
  have hown : s.vm.findClass RX2 = some m.cls := findClass_of_methodNamed B.named
  have hlocks := B.notSynchronized
  subst hsz
  have hD := hD0.self (sz := s.heap.size)
  generalize hAe : va_A (WDay z a1 m1) s.heap.size = A at hD hT ⊢
  have hA : ∀ q : Nat, s.heap.size ≤ q → A q := fun q h => by rw [← hAe]; exact Or.inr h
  have hS : va_S A s.heap s.heap [] := va_S.rf
  have hl := lv_entry ([.ref (a1 0)] : List Value) (n := 2) (Nat.le_of_ble_eq_true rfl)
  rw [lg_entry_eq]
  generalize (lg_sl ([.ref (a1 0)] : List Value) ++ List.replicate (2 - (lg_sl ([.ref (a1 0)] : List Value)).length) Slot.unset).toArray = ls at hl ⊢
  have hl : lv_has ls 2 [(0, .ref (a1 0))] := hl
  unfold pX2_lineUp at hf
  refine lv_iconst (v := 0) hx hb dX2_lineUp_0 (by decide) ?_
  refine lv_istore_n (lv' := [(1, .int 0), (0, .ref (a1 0))]) hx hb dX2_lineUp_1 rfl hl (by decide) rfl (fun ls hl => ?_)
  obtain ⟨F3, eF3, hf⟩ := zl2_use hf
  have L2_F3 : ∀ (n : Nat) (x1 : Int32) (y2 : Mem) (H : Heap) (locs : List Loc), va_P D vwCl (WDay z a1 y2) H → va_D A (WDay z a1 y2) → va_S A s.heap H locs → ∀ (ls : Array Slot), lv_has ls 2 [(0, .ref (a1 0)), (1, .int x1)] → zl2 F3 n x1 y2 = some m1' → GV p l e (headSpec wsX2_lineUp ({ frames := 0, cells := 0, slots := 0, locals := 0 } : Room)).room s m ([.ref (a1 0)] : List Value).toArray below meth c A D z (WDay z a1 m1') H locs (F0 m 2 ls []) := by
    intro n
    induction n with
    | zero =>
      intro x1 y2 H locs hP hD hS ls hl hf
      exact no_none hf
    | succ n ih5 =>
      intro x1 y2 H locs hP hD hS ls hl hf
      have hf := zl2_s eF3 hf
      refine lv_iload_n hx hb dX2_lineUp_2 rfl (lv_at hl 1 rfl) ?_
      refine lv_aload_n hx hb dX2_lineUp_3 rfl (lv_at hl 0 rfl) ?_
      refine va_get (D := D) (ci := 2) (v := .int (y2 0 4)) (C := RX2) (T := TX2) (N := 8) hx hb hts iX2 hown hK hP 0 rfl rfl 4 (by decide) (hts _ aw165) (fun _ h9 => h9) rfl dX2_lineUp_4 ?_
      refine lv_icmp_ge (tgt := 86) hx hb dX2_lineUp_7 (by decide) (fun c6 => ?_) (fun c6 => ?_)
      · have hf := if_t c6 hf
        obtain rfl := so1 hf
        exact ret_v hx hb hr hlocks hK hP hD hS dX2_lineUp_86
      · have hf := if_f c6 hf
        refine lv_aload_n hx hb dX2_lineUp_10 rfl (lv_at hl 0 rfl) ?_
        refine va_get (D := D) (ci := 2) (v := .ref (a1 13)) (C := RX2) (T := TX2) (N := 8) hx hb hts iX2 hown hK hP 0 rfl rfl 1 (by decide) (hts _ aw154) (fun _ h9 => h9) rfl dX2_lineUp_11 ?_
        refine lv_iload_n hx hb dX2_lineUp_14 rfl (lv_at hl 1 rfl) ?_
        obtain ⟨h7, hf⟩ := ck_use hf
        refine z_ald hx hb hK hP 13 1 (C := "FilledForOne$Comer") (g := (fun j => a1 (5 + j))) rfl rfl h7 dX2_lineUp_15 ?_
        refine va_get (D := D) (ci := 1) (v := .int (y2 (5 + x1.toNatClampNeg) 5)) (C := RX1) (T := TX1) (N := 7) hx hb hts iX1 hown hK hP (5 + x1.toNatClampNeg) (WDay_c z a1 y2 (vp_lt h7)) rfl 5 (by decide) (hts _ aw103) (fun _ h9 => h9) rfl dX2_lineUp_16 ?_
        refine lv_if_ne (tgt := 80) hx hb dX2_lineUp_19 (by decide) (fun c8 => ?_) (fun c8 => ?_)
        · have hf := if_f c8 hf
          obtain ⟨x9, ex9⟩ : ∃ y : Int32, y = x1 + 1 := ⟨_, rfl⟩
          have hf := lt_use ex9 hf
          refine lv_iinc (v := x9) (lv' := [(1, .int x9), (0, .ref (a1 0))]) hx hb dX2_lineUp_80 hl (k := 1) rfl (by rw [ex9]; rfl) (by decide) rfl (fun ls hl => ?_)
          refine lv_goto (tgt := 2) hx hb dX2_lineUp_83 (by decide) ?_
          exact ih5 _ _ _ _ hP hD hS _ (lv_sub hl [1, 0] rfl) hf
        · have hf := if_t c8 hf
          refine lv_aload_n hx hb dX2_lineUp_22 rfl (lv_at hl 0 rfl) ?_
          refine va_get (D := D) (ci := 2) (v := .ref (a1 13)) (C := RX2) (T := TX2) (N := 8) hx hb hts iX2 hown hK hP 0 rfl rfl 1 (by decide) (hts _ aw154) (fun _ h9 => h9) rfl dX2_lineUp_23 ?_
          refine lv_iload_n hx hb dX2_lineUp_26 rfl (lv_at hl 1 rfl) ?_
          obtain ⟨h10, hf⟩ := ck_use hf
          refine z_ald hx hb hK hP 13 1 (C := "FilledForOne$Comer") (g := (fun j => a1 (5 + j))) rfl rfl h10 dX2_lineUp_27 ?_
          refine va_get (D := D) (ci := 1) (v := .int (y2 (5 + x1.toNatClampNeg) 2)) (C := RX1) (T := TX1) (N := 7) hx hb hts iX1 hown hK hP (5 + x1.toNatClampNeg) (WDay_c z a1 y2 (vp_lt h10)) rfl 2 (by decide) (hts _ aw95) (fun _ h9 => h9) rfl dX2_lineUp_28 ?_
          refine lv_aload_n hx hb dX2_lineUp_31 rfl (lv_at hl 0 rfl) ?_
          refine va_get (D := D) (ci := 2) (v := .int (y2 0 6)) (C := RX2) (T := TX2) (N := 8) hx hb hts iX2 hown hK hP 0 rfl rfl 6 (by decide) (hts _ aw170) (fun _ h9 => h9) rfl dX2_lineUp_32 ?_
          refine lv_icmp_ne (tgt := 80) hx hb dX2_lineUp_35 (by decide) (fun c11 => ?_) (fun c11 => ?_)
          · have hf := if_f c11 hf
            obtain ⟨x12, ex12⟩ : ∃ y : Int32, y = x1 + 1 := ⟨_, rfl⟩
            have hf := lt_use ex12 hf
            refine lv_iinc (v := x12) (lv' := [(1, .int x12), (0, .ref (a1 0))]) hx hb dX2_lineUp_80 hl (k := 1) rfl (by rw [ex12]; rfl) (by decide) rfl (fun ls hl => ?_)
            refine lv_goto (tgt := 2) hx hb dX2_lineUp_83 (by decide) ?_
            exact ih5 _ _ _ _ hP hD hS _ (lv_sub hl [1, 0] rfl) hf
          · have hf := if_t c11 hf
            refine lv_aload_n hx hb dX2_lineUp_38 rfl (lv_at hl 0 rfl) ?_
            refine va_get (D := D) (ci := 2) (v := .int (y2 0 5)) (C := RX2) (T := TX2) (N := 8) hx hb hts iX2 hown hK hP 0 rfl rfl 5 (by decide) (hts _ aw168) (fun _ h9 => h9) rfl dX2_lineUp_39 ?_
            refine lv_aload_n hx hb dX2_lineUp_42 rfl (lv_at hl 0 rfl) ?_
            refine va_get (D := D) (ci := 2) (v := .ref (a1 2)) (C := RX2) (T := TX2) (N := 8) hx hb hts iX2 hown hK hP 0 rfl rfl 3 (by decide) (hts _ aw162) (fun _ h9 => h9) rfl dX2_lineUp_43 ?_
            refine z_alen hx hb hK hP 2 0 rfl rfl (v := 8) rfl dX2_lineUp_46 ?_
            refine lv_icmp_ge (tgt := 80) hx hb dX2_lineUp_47 (by decide) (fun c13 => ?_) (fun c13 => ?_)
            · have hf := if_t c13 hf
              obtain ⟨x14, ex14⟩ : ∃ y : Int32, y = x1 + 1 := ⟨_, rfl⟩
              have hf := lt_use ex14 hf
              refine lv_iinc (v := x14) (lv' := [(1, .int x14), (0, .ref (a1 0))]) hx hb dX2_lineUp_80 hl (k := 1) rfl (by rw [ex14]; rfl) (by decide) rfl (fun ls hl => ?_)
              refine lv_goto (tgt := 2) hx hb dX2_lineUp_83 (by decide) ?_
              exact ih5 _ _ _ _ hP hD hS _ (lv_sub hl [1, 0] rfl) hf
            · have hf := if_f c13 hf
              refine lv_aload_n hx hb dX2_lineUp_50 rfl (lv_at hl 0 rfl) ?_
              refine va_get (D := D) (ci := 2) (v := .ref (a1 13)) (C := RX2) (T := TX2) (N := 8) hx hb hts iX2 hown hK hP 0 rfl rfl 1 (by decide) (hts _ aw154) (fun _ h9 => h9) rfl dX2_lineUp_51 ?_
              refine lv_iload_n hx hb dX2_lineUp_54 rfl (lv_at hl 1 rfl) ?_
              obtain ⟨h15, hf⟩ := ck_use hf
              refine z_ald hx hb hK hP 13 1 (C := "FilledForOne$Comer") (g := (fun j => a1 (5 + j))) rfl rfl h15 dX2_lineUp_55 ?_
              refine lv_iconst (v := 1) hx hb dX2_lineUp_56 (by decide) ?_
              refine z_put (ci := 1) (v := .int 1) (ty := .int) (C := RX1) (T := TX1) (N := 7) hx hb hts iX1 tyX1 tyX1_ok nmX1 hown hK hP hD hS (5 + x1.toNatClampNeg) (WDay_c z a1 y2 (vp_lt h15)) rfl 5 (by decide) (hts _ aw103) (fun _ h9 => h9) rfl (by decide +kernel) rfl rfl (Nat.le_of_ble_eq_true rfl) dX2_lineUp_57 (fun (w9 : Mem) => (WDay z a1 w9)) (up2 y2 (5 + x1.toNatClampNeg) 5 1) (WDay_sc z a1 y2 (upd (y2 (5 + x1.toNatClampNeg)) 5 1) (vp_lt h15)) (fun y16 ey16 H locs hP hD hS => ?_)
              have hf := lt_use ey16 hf
              refine lv_aload_n hx hb dX2_lineUp_60 rfl (lv_at hl 0 rfl) ?_
              refine va_get (D := D) (ci := 2) (v := .ref (a1 2)) (C := RX2) (T := TX2) (N := 8) hx hb hts iX2 hown hK hP 0 rfl rfl 3 (by decide) (hts _ aw162) (fun _ h9 => h9) rfl dX2_lineUp_61 ?_
              refine lv_aload_n hx hb dX2_lineUp_64 rfl (lv_at hl 0 rfl) ?_
              refine va_get (D := D) (ci := 2) (v := .int (y16 0 5)) (C := RX2) (T := TX2) (N := 8) hx hb hts iX2 hown hK hP 0 rfl rfl 5 (by decide) (hts _ aw168) (fun _ h9 => h9) rfl dX2_lineUp_65 ?_
              refine lv_iload_n hx hb dX2_lineUp_68 rfl (lv_at hl 1 rfl) ?_
              obtain ⟨h18, hf⟩ := ck_use hf
              refine z_iast hx hb hK hP hD hS 2 rfl h18 dX2_lineUp_69 (fun (w9 : Mem) => (WDay z a1 w9)) (up2 y16 2 (y16 0 5).toNatClampNeg x1) rfl (fun y17 ey17 H locs hP hD hS => ?_)
              have hf := lt_use ey17 hf
              refine lv_aload_n hx hb dX2_lineUp_70 rfl (lv_at hl 0 rfl) ?_
              refine lv_dup hx hb dX2_lineUp_71 rfl ?_
              refine va_get (D := D) (ci := 2) (v := .int (y17 0 5)) (C := RX2) (T := TX2) (N := 8) hx hb hts iX2 hown hK hP 0 rfl rfl 5 (by decide) (hts _ aw168) (fun _ h9 => h9) rfl dX2_lineUp_72 ?_
              refine lv_iconst (v := 1) hx hb dX2_lineUp_75 (by decide) ?_
              refine lv_iadd hx hb dX2_lineUp_76 ?_
              refine z_put (ci := 2) (v := .int ((y17 0 5) + 1)) (ty := .int) (C := RX2) (T := TX2) (N := 8) hx hb hts iX2 tyX2 tyX2_ok nmX2 hown hK hP hD hS 0 rfl rfl 5 (by decide) (hts _ aw168) (fun _ h9 => h9) rfl (by decide +kernel) rfl rfl (Nat.le_of_ble_eq_true rfl) dX2_lineUp_77 (fun (w9 : Mem) => (WDay z a1 w9)) (up2 y17 0 5 ((y17 0 5) + 1)) rfl (fun y19 ey19 H locs hP hD hS => ?_)
              have hf := lt_use ey19 hf
              obtain ⟨x20, ex20⟩ : ∃ y : Int32, y = x1 + 1 := ⟨_, rfl⟩
              have hf := lt_use ex20 hf
              refine lv_iinc (v := x20) (lv' := [(1, .int x20), (0, .ref (a1 0))]) hx hb dX2_lineUp_80 hl (k := 1) rfl (by rw [ex20]; rfl) (by decide) rfl (fun ls hl => ?_)
              refine lv_goto (tgt := 2) hx hb dX2_lineUp_83 (by decide) ?_
              exact ih5 _ _ _ _ hP hD hS _ (lv_sub hl [1, 0] rfl) hf
  exact L2_F3 fu _ _ _ _ hP hD hS _ (lv_sub hl [1, 0] rfl) hf
def pX2_closeUp (fu : Nat) (m1 : Mem) : Option Mem :=
  zl3 (fun g5 (x1 : Int32) (x2 : Int32) (y3 : Mem) =>
    if (y3 0 5) ≤ x2 then
      lt' (up2 y3 0 5 x1) fun y8 =>
      some y8
    else
      ck x2 8 <|
      ck (y3 2 x2.toNatClampNeg) 8 <|
      if (y3 (5 + (y3 2 x2.toNatClampNeg).toNatClampNeg) 5) = 1 then
        ck x2 8 <|
        ck x1 8 <|
        lt' (up2 y3 2 x1.toNatClampNeg (y3 2 x2.toNatClampNeg)) fun y14 =>
        lt' (x1 + 1) fun x16 =>
        lt' (x2 + 1) fun x17 =>
        g5 x16 x17 y14
      else
        lt' (x2 + 1) fun x12 =>
        g5 x1 x12 y3) fu 0 0 m1
set_option maxHeartbeats 4000000 in
set_option maxRecDepth 100000 in
theorem tX2_closeUp (l : Launch) (D : va_G) (z tt : Nat → Nat) (a1 : Nat → Nat) (m1 : Mem)  (fu : Nat) (m1' : Mem) (hf : pX2_closeUp fu m1 = some m1') : MetV l yX2_closeUp wsX2_closeUp ({ frames := 0, cells := 0, slots := 0, locals := 0 } : Room) D z tt ([.ref (a1 0)] : List Value) (WDay z a1 m1) (WDay z a1 m1') := by
  intro sz
  refine Met.ofW (cc := cX2_closeUp) (maxL := 3) (ret := none) (by decide) rfl ?_
  intro p e s m args below meth c s₁ B hml hv
  obtain ⟨rfl, hsz, hP, hK, hD0, hT, hN⟩ := hv
  have hx := B.exec
  have hb := B.bytes
  have hr := B.returns
  have hts : ∀ w ∈ wsA, w.before ([.ref (a1 0)] : List Value).toArray s = true := fun w h => atoms_spec (ws := wsX2_closeUp) B.pre w (List.mem_cons_of_mem _ h)
  have hown : s.vm.findClass RX2 = some m.cls := findClass_of_methodNamed B.named
  have hlocks := B.notSynchronized
  subst hsz
  have hD := hD0.self (sz := s.heap.size)
  generalize hAe : va_A (WDay z a1 m1) s.heap.size = A at hD hT ⊢
  have hA : ∀ q : Nat, s.heap.size ≤ q → A q := fun q h => by rw [← hAe]; exact Or.inr h
  have hS : va_S A s.heap s.heap [] := va_S.rf
  have hl := lv_entry ([.ref (a1 0)] : List Value) (n := 3) (Nat.le_of_ble_eq_true rfl)
  rw [lg_entry_eq]
  generalize (lg_sl ([.ref (a1 0)] : List Value) ++ List.replicate (3 - (lg_sl ([.ref (a1 0)] : List Value)).length) Slot.unset).toArray = ls at hl ⊢
  have hl : lv_has ls 3 [(0, .ref (a1 0))] := hl
  unfold pX2_closeUp at hf
  refine lv_iconst (v := 0) hx hb dX2_closeUp_0 (by decide) ?_
  refine lv_istore_n (lv' := [(1, .int 0), (0, .ref (a1 0))]) hx hb dX2_closeUp_1 rfl hl (by decide) rfl (fun ls hl => ?_)
  refine lv_iconst (v := 0) hx hb dX2_closeUp_2 (by decide) ?_
  refine lv_istore_n (lv' := [(2, .int 0), (1, .int 0), (0, .ref (a1 0))]) hx hb dX2_closeUp_3 rfl hl (by decide) rfl (fun ls hl => ?_)
  obtain ⟨F4, eF4, hf⟩ := zl3_use hf
  have L4_F4 : ∀ (n : Nat) (x1 : Int32) (x2 : Int32) (y3 : Mem) (H : Heap) (locs : List Loc), va_P D vwCl (WDay z a1 y3) H → va_D A (WDay z a1 y3) → va_S A s.heap H locs → ∀ (ls : Array Slot), lv_has ls 3 [(0, .ref (a1 0)), (1, .int x1), (2, .int x2)] → zl3 F4 n x1 x2 y3 = some m1' → GV p l e (headSpec wsX2_closeUp ({ frames := 0, cells := 0, slots := 0, locals := 0 } : Room)).room s m ([.ref (a1 0)] : List Value).toArray below meth c A D z (WDay z a1 m1') H locs (F0 m 4 ls []) := by
    intro n
    induction n with
    | zero =>
      intro x1 x2 y3 H locs hP hD hS ls hl hf
      exact no_none hf
    | succ n ih6 =>
      intro x1 x2 y3 H locs hP hD hS ls hl hf
      have hf := zl3_s eF4 hf
      refine lv_iload_n hx hb dX2_closeUp_4 rfl (lv_at hl 2 rfl) ?_
      refine lv_aload_n hx hb dX2_closeUp_5 rfl (lv_at hl 0 rfl) ?_
      refine va_get (D := D) (ci := 2) (v := .int (y3 0 5)) (C := RX2) (T := TX2) (N := 8) hx hb hts iX2 hown hK hP 0 rfl rfl 5 (by decide) (hts _ aw168) (fun _ h9 => h9) rfl dX2_closeUp_6 ?_
      refine lv_icmp_ge (tgt := 51) hx hb dX2_closeUp_9 (by decide) (fun c7 => ?_) (fun c7 => ?_)
      · have hf := if_t c7 hf
        refine lv_aload_n hx hb dX2_closeUp_51 rfl (lv_at hl 0 rfl) ?_
        refine lv_iload_n hx hb dX2_closeUp_52 rfl (lv_at hl 1 rfl) ?_
        refine z_put (ci := 2) (v := .int x1) (ty := .int) (C := RX2) (T := TX2) (N := 8) hx hb hts iX2 tyX2 tyX2_ok nmX2 hown hK hP hD hS 0 rfl rfl 5 (by decide) (hts _ aw168) (fun _ h9 => h9) rfl (by decide +kernel) rfl rfl (Nat.le_of_ble_eq_true rfl) dX2_closeUp_53 (fun (w9 : Mem) => (WDay z a1 w9)) (up2 y3 0 5 x1) rfl (fun y8 ey8 H locs hP hD hS => ?_)
        have hf := lt_use ey8 hf
        obtain rfl := so1 hf
        exact ret_v hx hb hr hlocks hK hP hD hS dX2_closeUp_56
      · have hf := if_f c7 hf
        refine lv_aload_n hx hb dX2_closeUp_12 rfl (lv_at hl 0 rfl) ?_
        refine va_get (D := D) (ci := 2) (v := .ref (a1 13)) (C := RX2) (T := TX2) (N := 8) hx hb hts iX2 hown hK hP 0 rfl rfl 1 (by decide) (hts _ aw154) (fun _ h9 => h9) rfl dX2_closeUp_13 ?_
        refine lv_aload_n hx hb dX2_closeUp_16 rfl (lv_at hl 0 rfl) ?_
        refine va_get (D := D) (ci := 2) (v := .ref (a1 2)) (C := RX2) (T := TX2) (N := 8) hx hb hts iX2 hown hK hP 0 rfl rfl 3 (by decide) (hts _ aw162) (fun _ h9 => h9) rfl dX2_closeUp_17 ?_
        refine lv_iload_n hx hb dX2_closeUp_20 rfl (lv_at hl 2 rfl) ?_
        obtain ⟨h9, hf⟩ := ck_use hf
        refine z_iald hx hb hK hP 2 rfl h9 dX2_closeUp_21 ?_
        obtain ⟨h10, hf⟩ := ck_use hf
        refine z_ald hx hb hK hP 13 1 (C := "FilledForOne$Comer") (g := (fun j => a1 (5 + j))) rfl rfl h10 dX2_closeUp_22 ?_
        refine va_get (D := D) (ci := 1) (v := .int (y3 (5 + (y3 2 x2.toNatClampNeg).toNatClampNeg) 5)) (C := RX1) (T := TX1) (N := 7) hx hb hts iX1 hown hK hP (5 + (y3 2 x2.toNatClampNeg).toNatClampNeg) (WDay_c z a1 y3 (vp_lt h10)) rfl 5 (by decide) (hts _ aw103) (fun _ h9 => h9) rfl dX2_closeUp_23 ?_
        refine lv_iconst (v := 1) hx hb dX2_closeUp_26 (by decide) ?_
        refine lv_icmp_ne (tgt := 45) hx hb dX2_closeUp_27 (by decide) (fun c11 => ?_) (fun c11 => ?_)
        · have hf := if_f c11 hf
          obtain ⟨x12, ex12⟩ : ∃ y : Int32, y = x2 + 1 := ⟨_, rfl⟩
          have hf := lt_use ex12 hf
          refine lv_iinc (v := x12) (lv' := [(2, .int x12), (0, .ref (a1 0)), (1, .int x1)]) hx hb dX2_closeUp_45 hl (k := 2) rfl (by rw [ex12]; rfl) (by decide) rfl (fun ls hl => ?_)
          refine lv_goto (tgt := 4) hx hb dX2_closeUp_48 (by decide) ?_
          exact ih6 _ _ _ _ _ hP hD hS _ (lv_sub hl [1, 2, 0] rfl) hf
        · have hf := if_t c11 hf
          refine lv_aload_n hx hb dX2_closeUp_30 rfl (lv_at hl 0 rfl) ?_
          refine va_get (D := D) (ci := 2) (v := .ref (a1 2)) (C := RX2) (T := TX2) (N := 8) hx hb hts iX2 hown hK hP 0 rfl rfl 3 (by decide) (hts _ aw162) (fun _ h9 => h9) rfl dX2_closeUp_31 ?_
          refine lv_iload_n hx hb dX2_closeUp_34 rfl (lv_at hl 1 rfl) ?_
          refine lv_aload_n hx hb dX2_closeUp_35 rfl (lv_at hl 0 rfl) ?_
          refine va_get (D := D) (ci := 2) (v := .ref (a1 2)) (C := RX2) (T := TX2) (N := 8) hx hb hts iX2 hown hK hP 0 rfl rfl 3 (by decide) (hts _ aw162) (fun _ h9 => h9) rfl dX2_closeUp_36 ?_
          refine lv_iload_n hx hb dX2_closeUp_39 rfl (lv_at hl 2 rfl) ?_
          obtain ⟨h13, hf⟩ := ck_use hf
          refine z_iald hx hb hK hP 2 rfl h13 dX2_closeUp_40 ?_
          obtain ⟨h15, hf⟩ := ck_use hf
          refine z_iast hx hb hK hP hD hS 2 rfl h15 dX2_closeUp_41 (fun (w9 : Mem) => (WDay z a1 w9)) (up2 y3 2 x1.toNatClampNeg (y3 2 x2.toNatClampNeg)) rfl (fun y14 ey14 H locs hP hD hS => ?_)
          have hf := lt_use ey14 hf
          obtain ⟨x16, ex16⟩ : ∃ y : Int32, y = x1 + 1 := ⟨_, rfl⟩
          have hf := lt_use ex16 hf
          refine lv_iinc (v := x16) (lv' := [(1, .int x16), (0, .ref (a1 0)), (2, .int x2)]) hx hb dX2_closeUp_42 hl (k := 1) rfl (by rw [ex16]; rfl) (by decide) rfl (fun ls hl => ?_)
          obtain ⟨x17, ex17⟩ : ∃ y : Int32, y = x2 + 1 := ⟨_, rfl⟩
          have hf := lt_use ex17 hf
          refine lv_iinc (v := x17) (lv' := [(2, .int x17), (1, .int x16), (0, .ref (a1 0))]) hx hb dX2_closeUp_45 hl (k := 2) rfl (by rw [ex17]; rfl) (by decide) rfl (fun ls hl => ?_)
          refine lv_goto (tgt := 4) hx hb dX2_closeUp_48 (by decide) ?_
          exact ih6 _ _ _ _ _ hP hD hS _ (lv_sub hl [2, 1, 0] rfl) hf
  exact L4_F4 fu _ _ _ _ _ hP hD hS _ (lv_sub hl [2, 1, 0] rfl) hf
end

section
-- ===== PART A: goes FIRST, ahead of the names: the tables' words, and 'selects' of the private methods out of them =====
/-- a private method of a class that the tables say can be made, by its rows of tables_1 -/
def lw_okq (q : MethodName × Nat) : Prop := (q.1.cls ≠ "java/lang/invoke/MethodHandle" ∧ q.1.cls ≠ "java/lang/invoke/VarHandle") ∧ Cond.instantiable q.1.cls q.2 ∈ tables_1 ∧ Cond.privateMethod q.1 ∈ tables_1 ∧ Cond.instanceMethod q.1 ∈ tables_1
theorem lw_p0 : lw_okq (⟨"FilledForOne", "refuse", "(I)I"⟩, 9) := ⟨⟨by decide +kernel, by decide +kernel⟩, List.mem_of_getElem? (i := 12) (by decide +kernel), List.mem_of_getElem? (i := 229) (by decide +kernel), List.mem_of_getElem? (i := 230) (by decide +kernel)⟩
theorem lw_p1 : lw_okq (⟨"FilledForOneModel", "no", "(I)I"⟩, 33) := ⟨⟨by decide +kernel, by decide +kernel⟩, List.mem_of_getElem? (i := 687) (by decide +kernel), List.mem_of_getElem? (i := 800) (by decide +kernel), List.mem_of_getElem? (i := 801) (by decide +kernel)⟩
theorem lw_p2 : lw_okq (⟨"FilledForOneModel", "statement", "()Z"⟩, 33) := ⟨⟨by decide +kernel, by decide +kernel⟩, List.mem_of_getElem? (i := 687) (by decide +kernel), List.mem_of_getElem? (i := 808) (by decide +kernel), List.mem_of_getElem? (i := 809) (by decide +kernel)⟩
theorem lw_p3 : lw_okq (⟨"FilledForOneModel", "next", "()I"⟩, 33) := ⟨⟨by decide +kernel, by decide +kernel⟩, List.mem_of_getElem? (i := 687) (by decide +kernel), List.mem_of_getElem? (i := 812) (by decide +kernel), List.mem_of_getElem? (i := 813) (by decide +kernel)⟩
theorem lw_p4 : lw_okq (⟨"FilledForOneModel", "readsSetting", "(I)Z"⟩, 33) := ⟨⟨by decide +kernel, by decide +kernel⟩, List.mem_of_getElem? (i := 687) (by decide +kernel), List.mem_of_getElem? (i := 816) (by decide +kernel), List.mem_of_getElem? (i := 817) (by decide +kernel)⟩
theorem lw_p5 : lw_okq (⟨"FilledForOneModel", "readsNumber", "(III)Z"⟩, 33) := ⟨⟨by decide +kernel, by decide +kernel⟩, List.mem_of_getElem? (i := 687) (by decide +kernel), List.mem_of_getElem? (i := 820) (by decide +kernel), List.mem_of_getElem? (i := 821) (by decide +kernel)⟩
theorem lw_p6 : lw_okq (⟨"FilledForOneModel", "readsComer", "(I)Z"⟩, 33) := ⟨⟨by decide +kernel, by decide +kernel⟩, List.mem_of_getElem? (i := 687) (by decide +kernel), List.mem_of_getElem? (i := 827) (by decide +kernel), List.mem_of_getElem? (i := 828) (by decide +kernel)⟩
theorem lw_p7 : lw_okq (⟨"FilledForOneModel", "passesAll", "(IZ)V"⟩, 33) := ⟨⟨by decide +kernel, by decide +kernel⟩, List.mem_of_getElem? (i := 687) (by decide +kernel), List.mem_of_getElem? (i := 831) (by decide +kernel), List.mem_of_getElem? (i := 832) (by decide +kernel)⟩
theorem lw_p8 : lw_okq (⟨"FilledForOneModel", "passes", "([I)V"⟩, 33) := ⟨⟨by decide +kernel, by decide +kernel⟩, List.mem_of_getElem? (i := 687) (by decide +kernel), List.mem_of_getElem? (i := 835) (by decide +kernel), List.mem_of_getElem? (i := 836) (by decide +kernel)⟩
theorem lw_p9 : lw_okq (⟨"FilledForOneModel", "passOne", "(I)I"⟩, 33) := ⟨⟨by decide +kernel, by decide +kernel⟩, List.mem_of_getElem? (i := 687) (by decide +kernel), List.mem_of_getElem? (i := 839) (by decide +kernel), List.mem_of_getElem? (i := 840) (by decide +kernel)⟩
theorem lw_p10 : lw_okq (⟨"FilledForOneModel", "comesAs", "(I)Z"⟩, 33) := ⟨⟨by decide +kernel, by decide +kernel⟩, List.mem_of_getElem? (i := 687) (by decide +kernel), List.mem_of_getElem? (i := 843) (by decide +kernel), List.mem_of_getElem? (i := 844) (by decide +kernel)⟩
theorem lw_p11 : lw_okq (⟨"FilledForOneModel", "notSet", "(II)I"⟩, 33) := ⟨⟨by decide +kernel, by decide +kernel⟩, List.mem_of_getElem? (i := 687) (by decide +kernel), List.mem_of_getElem? (i := 847) (by decide +kernel), List.mem_of_getElem? (i := 848) (by decide +kernel)⟩
theorem lw_p12 : lw_okq (⟨"FilledForOneModel", "comesOne", "(I)Z"⟩, 33) := ⟨⟨by decide +kernel, by decide +kernel⟩, List.mem_of_getElem? (i := 687) (by decide +kernel), List.mem_of_getElem? (i := 857) (by decide +kernel), List.mem_of_getElem? (i := 858) (by decide +kernel)⟩
theorem lw_p13 : lw_okq (⟨"FilledForOneModel", "isComer", "(I)Z"⟩, 33) := ⟨⟨by decide +kernel, by decide +kernel⟩, List.mem_of_getElem? (i := 687) (by decide +kernel), List.mem_of_getElem? (i := 861) (by decide +kernel), List.mem_of_getElem? (i := 862) (by decide +kernel)⟩
theorem lw_p14 : lw_okq (⟨"FilledForOneModel", "upTo", "(II)I"⟩, 33) := ⟨⟨by decide +kernel, by decide +kernel⟩, List.mem_of_getElem? (i := 687) (by decide +kernel), List.mem_of_getElem? (i := 877) (by decide +kernel), List.mem_of_getElem? (i := 878) (by decide +kernel)⟩
theorem lw_p15 : lw_okq (⟨"FilledForOneModel", "cupsBy", "(II)I"⟩, 33) := ⟨⟨by decide +kernel, by decide +kernel⟩, List.mem_of_getElem? (i := 687) (by decide +kernel), List.mem_of_getElem? (i := 881) (by decide +kernel), List.mem_of_getElem? (i := 882) (by decide +kernel)⟩
def lw_privs_1 : List (MethodName × Nat) := [(⟨"FilledForOne", "refuse", "(I)I"⟩, 9), (⟨"FilledForOneModel", "no", "(I)I"⟩, 33), (⟨"FilledForOneModel", "statement", "()Z"⟩, 33), (⟨"FilledForOneModel", "next", "()I"⟩, 33), (⟨"FilledForOneModel", "readsSetting", "(I)Z"⟩, 33), (⟨"FilledForOneModel", "readsNumber", "(III)Z"⟩, 33), (⟨"FilledForOneModel", "readsComer", "(I)Z"⟩, 33), (⟨"FilledForOneModel", "passesAll", "(IZ)V"⟩, 33), (⟨"FilledForOneModel", "passes", "([I)V"⟩, 33), (⟨"FilledForOneModel", "passOne", "(I)I"⟩, 33), (⟨"FilledForOneModel", "comesAs", "(I)Z"⟩, 33), (⟨"FilledForOneModel", "notSet", "(II)I"⟩, 33), (⟨"FilledForOneModel", "comesOne", "(I)Z"⟩, 33), (⟨"FilledForOneModel", "isComer", "(I)Z"⟩, 33), (⟨"FilledForOneModel", "upTo", "(II)I"⟩, 33), (⟨"FilledForOneModel", "cupsBy", "(II)I"⟩, 33)]
theorem lw_r1 : ∀ q ∈ lw_privs_1, lw_okq q := List.forall_mem_cons.mpr ⟨lw_p0, List.forall_mem_cons.mpr ⟨lw_p1, List.forall_mem_cons.mpr ⟨lw_p2, List.forall_mem_cons.mpr ⟨lw_p3, List.forall_mem_cons.mpr ⟨lw_p4, List.forall_mem_cons.mpr ⟨lw_p5, List.forall_mem_cons.mpr ⟨lw_p6, List.forall_mem_cons.mpr ⟨lw_p7, List.forall_mem_cons.mpr ⟨lw_p8, List.forall_mem_cons.mpr ⟨lw_p9, List.forall_mem_cons.mpr ⟨lw_p10, List.forall_mem_cons.mpr ⟨lw_p11, List.forall_mem_cons.mpr ⟨lw_p12, List.forall_mem_cons.mpr ⟨lw_p13, List.forall_mem_cons.mpr ⟨lw_p14, List.forall_mem_cons.mpr ⟨lw_p15, fun _ h => absurd h List.not_mem_nil⟩⟩⟩⟩⟩⟩⟩⟩⟩⟩⟩⟩⟩⟩⟩⟩
theorem lw_p16 : lw_okq (⟨"FilledForOneModel", "wantsInLine", "()I"⟩, 33) := ⟨⟨by decide +kernel, by decide +kernel⟩, List.mem_of_getElem? (i := 687) (by decide +kernel), List.mem_of_getElem? (i := 885) (by decide +kernel), List.mem_of_getElem? (i := 886) (by decide +kernel)⟩
theorem lw_p17 : lw_okq (⟨"FilledForOneModel", "wantsSoon", "(I)I"⟩, 33) := ⟨⟨by decide +kernel, by decide +kernel⟩, List.mem_of_getElem? (i := 687) (by decide +kernel), List.mem_of_getElem? (i := 889) (by decide +kernel), List.mem_of_getElem? (i := 890) (by decide +kernel)⟩
theorem lw_p18 : lw_okq (⟨"FilledForOneModel", "isFree", "(I)Z"⟩, 33) := ⟨⟨by decide +kernel, by decide +kernel⟩, List.mem_of_getElem? (i := 687) (by decide +kernel), List.mem_of_getElem? (i := 901) (by decide +kernel), List.mem_of_getElem? (i := 902) (by decide +kernel)⟩
theorem lw_p19 : lw_okq (⟨"FilledForOneModel", "isOver", "()Z"⟩, 33) := ⟨⟨by decide +kernel, by decide +kernel⟩, List.mem_of_getElem? (i := 687) (by decide +kernel), List.mem_of_getElem? (i := 913) (by decide +kernel), List.mem_of_getElem? (i := 914) (by decide +kernel)⟩
theorem lw_p20 : lw_okq (⟨"FilledForOneModel", "goesMinute", "()V"⟩, 33) := ⟨⟨by decide +kernel, by decide +kernel⟩, List.mem_of_getElem? (i := 687) (by decide +kernel), List.mem_of_getElem? (i := 917) (by decide +kernel), List.mem_of_getElem? (i := 918) (by decide +kernel)⟩
theorem lw_p21 : lw_okq (⟨"FilledForOneModel", "leaves", "(I)V"⟩, 33) := ⟨⟨by decide +kernel, by decide +kernel⟩, List.mem_of_getElem? (i := 687) (by decide +kernel), List.mem_of_getElem? (i := 921) (by decide +kernel), List.mem_of_getElem? (i := 922) (by decide +kernel)⟩
theorem lw_p22 : lw_okq (⟨"FilledForOneModel", "isServed", "(I)Z"⟩, 33) := ⟨⟨by decide +kernel, by decide +kernel⟩, List.mem_of_getElem? (i := 687) (by decide +kernel), List.mem_of_getElem? (i := 925) (by decide +kernel), List.mem_of_getElem? (i := 926) (by decide +kernel)⟩
theorem lw_p23 : lw_okq (⟨"FilledForOneModel", "hotFor", "(I)I"⟩, 33) := ⟨⟨by decide +kernel, by decide +kernel⟩, List.mem_of_getElem? (i := 687) (by decide +kernel), List.mem_of_getElem? (i := 929) (by decide +kernel), List.mem_of_getElem? (i := 930) (by decide +kernel)⟩
theorem lw_p24 : lw_okq (⟨"FilledForOneModel", "freeFor", "(I)I"⟩, 33) := ⟨⟨by decide +kernel, by decide +kernel⟩, List.mem_of_getElem? (i := 687) (by decide +kernel), List.mem_of_getElem? (i := 933) (by decide +kernel), List.mem_of_getElem? (i := 934) (by decide +kernel)⟩
theorem lw_p25 : lw_okq (⟨"FilledForOneModel", "putsOn", "(II)V"⟩, 33) := ⟨⟨by decide +kernel, by decide +kernel⟩, List.mem_of_getElem? (i := 687) (by decide +kernel), List.mem_of_getElem? (i := 937) (by decide +kernel), List.mem_of_getElem? (i := 938) (by decide +kernel)⟩
theorem lw_p26 : lw_okq (⟨"FilledForOneModel", "boilTime", "(II)I"⟩, 33) := ⟨⟨by decide +kernel, by decide +kernel⟩, List.mem_of_getElem? (i := 687) (by decide +kernel), List.mem_of_getElem? (i := 941) (by decide +kernel), List.mem_of_getElem? (i := 942) (by decide +kernel)⟩
theorem lw_p27 : lw_okq (⟨"FilledForOneModel", "cools", "()V"⟩, 33) := ⟨⟨by decide +kernel, by decide +kernel⟩, List.mem_of_getElem? (i := 687) (by decide +kernel), List.mem_of_getElem? (i := 945) (by decide +kernel), List.mem_of_getElem? (i := 946) (by decide +kernel)⟩
theorem lw_p28 : lw_okq (⟨"FilledForOneModel", "begins", "()V"⟩, 33) := ⟨⟨by decide +kernel, by decide +kernel⟩, List.mem_of_getElem? (i := 687) (by decide +kernel), List.mem_of_getElem? (i := 953) (by decide +kernel), List.mem_of_getElem? (i := 954) (by decide +kernel)⟩
theorem lw_p29 : lw_okq (⟨"FilledForOneModel", "goesToEnd", "()V"⟩, 33) := ⟨⟨by decide +kernel, by decide +kernel⟩, List.mem_of_getElem? (i := 687) (by decide +kernel), List.mem_of_getElem? (i := 965) (by decide +kernel), List.mem_of_getElem? (i := 966) (by decide +kernel)⟩
theorem lw_p30 : lw_okq (⟨"FilledForOneModel", "waitedAll", "()I"⟩, 33) := ⟨⟨by decide +kernel, by decide +kernel⟩, List.mem_of_getElem? (i := 687) (by decide +kernel), List.mem_of_getElem? (i := 969) (by decide +kernel), List.mem_of_getElem? (i := 970) (by decide +kernel)⟩
theorem lw_p31 : lw_okq (⟨"FilledForOneModel", "stateMany", "(I)I"⟩, 33) := ⟨⟨by decide +kernel, by decide +kernel⟩, List.mem_of_getElem? (i := 687) (by decide +kernel), List.mem_of_getElem? (i := 973) (by decide +kernel), List.mem_of_getElem? (i := 974) (by decide +kernel)⟩
def lw_privs_2 : List (MethodName × Nat) := [(⟨"FilledForOneModel", "wantsInLine", "()I"⟩, 33), (⟨"FilledForOneModel", "wantsSoon", "(I)I"⟩, 33), (⟨"FilledForOneModel", "isFree", "(I)Z"⟩, 33), (⟨"FilledForOneModel", "isOver", "()Z"⟩, 33), (⟨"FilledForOneModel", "goesMinute", "()V"⟩, 33), (⟨"FilledForOneModel", "leaves", "(I)V"⟩, 33), (⟨"FilledForOneModel", "isServed", "(I)Z"⟩, 33), (⟨"FilledForOneModel", "hotFor", "(I)I"⟩, 33), (⟨"FilledForOneModel", "freeFor", "(I)I"⟩, 33), (⟨"FilledForOneModel", "putsOn", "(II)V"⟩, 33), (⟨"FilledForOneModel", "boilTime", "(II)I"⟩, 33), (⟨"FilledForOneModel", "cools", "()V"⟩, 33), (⟨"FilledForOneModel", "begins", "()V"⟩, 33), (⟨"FilledForOneModel", "goesToEnd", "()V"⟩, 33), (⟨"FilledForOneModel", "waitedAll", "()I"⟩, 33), (⟨"FilledForOneModel", "stateMany", "(I)I"⟩, 33)]
theorem lw_r2 : ∀ q ∈ lw_privs_2, lw_okq q := List.forall_mem_cons.mpr ⟨lw_p16, List.forall_mem_cons.mpr ⟨lw_p17, List.forall_mem_cons.mpr ⟨lw_p18, List.forall_mem_cons.mpr ⟨lw_p19, List.forall_mem_cons.mpr ⟨lw_p20, List.forall_mem_cons.mpr ⟨lw_p21, List.forall_mem_cons.mpr ⟨lw_p22, List.forall_mem_cons.mpr ⟨lw_p23, List.forall_mem_cons.mpr ⟨lw_p24, List.forall_mem_cons.mpr ⟨lw_p25, List.forall_mem_cons.mpr ⟨lw_p26, List.forall_mem_cons.mpr ⟨lw_p27, List.forall_mem_cons.mpr ⟨lw_p28, List.forall_mem_cons.mpr ⟨lw_p29, List.forall_mem_cons.mpr ⟨lw_p30, List.forall_mem_cons.mpr ⟨lw_p31, fun _ h => absurd h List.not_mem_nil⟩⟩⟩⟩⟩⟩⟩⟩⟩⟩⟩⟩⟩⟩⟩⟩
theorem lw_p32 : lw_okq (⟨"FilledForOneModel", "costNow", "()I"⟩, 33) := ⟨⟨by decide +kernel, by decide +kernel⟩, List.mem_of_getElem? (i := 687) (by decide +kernel), List.mem_of_getElem? (i := 977) (by decide +kernel), List.mem_of_getElem? (i := 978) (by decide +kernel)⟩
theorem lw_p33 : lw_okq (⟨"FilledForOneModel", "bestKind", "(II)I"⟩, 33) := ⟨⟨by decide +kernel, by decide +kernel⟩, List.mem_of_getElem? (i := 687) (by decide +kernel), List.mem_of_getElem? (i := 989) (by decide +kernel), List.mem_of_getElem? (i := 990) (by decide +kernel)⟩
theorem lw_p34 : lw_okq (⟨"FilledForOneModel", "costAnew", "()I"⟩, 33) := ⟨⟨by decide +kernel, by decide +kernel⟩, List.mem_of_getElem? (i := 687) (by decide +kernel), List.mem_of_getElem? (i := 994) (by decide +kernel), List.mem_of_getElem? (i := 995) (by decide +kernel)⟩
theorem lw_p35 : lw_okq (⟨"FilledForOneModel", "lower", "(I)I"⟩, 33) := ⟨⟨by decide +kernel, by decide +kernel⟩, List.mem_of_getElem? (i := 687) (by decide +kernel), List.mem_of_getElem? (i := 1002) (by decide +kernel), List.mem_of_getElem? (i := 1003) (by decide +kernel)⟩
theorem lw_p36 : lw_okq (⟨"FilledForOneModel", "goesRounds", "()I"⟩, 33) := ⟨⟨by decide +kernel, by decide +kernel⟩, List.mem_of_getElem? (i := 687) (by decide +kernel), List.mem_of_getElem? (i := 1006) (by decide +kernel), List.mem_of_getElem? (i := 1007) (by decide +kernel)⟩
theorem lw_p37 : lw_okq (⟨"FilledForOneModel", "kindsDigits", "()I"⟩, 33) := ⟨⟨by decide +kernel, by decide +kernel⟩, List.mem_of_getElem? (i := 687) (by decide +kernel), List.mem_of_getElem? (i := 1010) (by decide +kernel), List.mem_of_getElem? (i := 1011) (by decide +kernel)⟩
theorem lw_p38 : lw_okq (⟨"FilledForOneModel", "leastOfOneKind", "()I"⟩, 33) := ⟨⟨by decide +kernel, by decide +kernel⟩, List.mem_of_getElem? (i := 687) (by decide +kernel), List.mem_of_getElem? (i := 1014) (by decide +kernel), List.mem_of_getElem? (i := 1015) (by decide +kernel)⟩
theorem lw_p39 : lw_okq (⟨"FilledForOneModel", "hours", "()I"⟩, 33) := ⟨⟨by decide +kernel, by decide +kernel⟩, List.mem_of_getElem? (i := 687) (by decide +kernel), List.mem_of_getElem? (i := 1030) (by decide +kernel), List.mem_of_getElem? (i := 1031) (by decide +kernel)⟩
theorem lw_p40 : lw_okq (⟨"FilledForOneModel", "sorts", "()V"⟩, 33) := ⟨⟨by decide +kernel, by decide +kernel⟩, List.mem_of_getElem? (i := 687) (by decide +kernel), List.mem_of_getElem? (i := 1038) (by decide +kernel), List.mem_of_getElem? (i := 1039) (by decide +kernel)⟩
theorem lw_p41 : lw_okq (⟨"FilledForOneModel", "costOfRows", "(I)I"⟩, 33) := ⟨⟨by decide +kernel, by decide +kernel⟩, List.mem_of_getElem? (i := 687) (by decide +kernel), List.mem_of_getElem? (i := 1042) (by decide +kernel), List.mem_of_getElem? (i := 1043) (by decide +kernel)⟩
theorem lw_p42 : lw_okq (⟨"FilledForOneModel", "ferryBy", "(II)I"⟩, 33) := ⟨⟨by decide +kernel, by decide +kernel⟩, List.mem_of_getElem? (i := 687) (by decide +kernel), List.mem_of_getElem? (i := 1050) (by decide +kernel), List.mem_of_getElem? (i := 1051) (by decide +kernel)⟩
theorem lw_p43 : lw_okq (⟨"FilledForOneModel", "timesBy", "(I)I"⟩, 33) := ⟨⟨by decide +kernel, by decide +kernel⟩, List.mem_of_getElem? (i := 687) (by decide +kernel), List.mem_of_getElem? (i := 1058) (by decide +kernel), List.mem_of_getElem? (i := 1059) (by decide +kernel)⟩
def lw_privs_3 : List (MethodName × Nat) := [(⟨"FilledForOneModel", "costNow", "()I"⟩, 33), (⟨"FilledForOneModel", "bestKind", "(II)I"⟩, 33), (⟨"FilledForOneModel", "costAnew", "()I"⟩, 33), (⟨"FilledForOneModel", "lower", "(I)I"⟩, 33), (⟨"FilledForOneModel", "goesRounds", "()I"⟩, 33), (⟨"FilledForOneModel", "kindsDigits", "()I"⟩, 33), (⟨"FilledForOneModel", "leastOfOneKind", "()I"⟩, 33), (⟨"FilledForOneModel", "hours", "()I"⟩, 33), (⟨"FilledForOneModel", "sorts", "()V"⟩, 33), (⟨"FilledForOneModel", "costOfRows", "(I)I"⟩, 33), (⟨"FilledForOneModel", "ferryBy", "(II)I"⟩, 33), (⟨"FilledForOneModel", "timesBy", "(I)I"⟩, 33)]
theorem lw_r3 : ∀ q ∈ lw_privs_3, lw_okq q := List.forall_mem_cons.mpr ⟨lw_p32, List.forall_mem_cons.mpr ⟨lw_p33, List.forall_mem_cons.mpr ⟨lw_p34, List.forall_mem_cons.mpr ⟨lw_p35, List.forall_mem_cons.mpr ⟨lw_p36, List.forall_mem_cons.mpr ⟨lw_p37, List.forall_mem_cons.mpr ⟨lw_p38, List.forall_mem_cons.mpr ⟨lw_p39, List.forall_mem_cons.mpr ⟨lw_p40, List.forall_mem_cons.mpr ⟨lw_p41, List.forall_mem_cons.mpr ⟨lw_p42, List.forall_mem_cons.mpr ⟨lw_p43, fun _ h => absurd h List.not_mem_nil⟩⟩⟩⟩⟩⟩⟩⟩⟩⟩⟩⟩
def lw_privs : List (MethodName × Nat) := lw_privs_1 ++ (lw_privs_2 ++ (lw_privs_3))
def lw_tbl : List Cond := k2_sels lw_privs ++ tables_1
theorem lw_privs_ok : ∀ q ∈ lw_privs, lw_okq q := by
  show ∀ q ∈ lw_privs_1 ++ (lw_privs_2 ++ (lw_privs_3)), lw_okq q
  exact List.forall_mem_append.mpr ⟨lw_r1, List.forall_mem_append.mpr ⟨lw_r2, lw_r3⟩⟩
-- ===== end of PART A; then your names; then what follows =====
end
section
/-! ===== BEGIN words of one list among another's, by their places ===== -/
theorem goodIn_r {big : List Cond} (ws : List Cond) (ps : List Nat) (hp : ws = ps.filterMap (fun i => big[i]?)) (h : ws.all goodWord = true) : GoodIn big ws := by
  intro w hw
  have h1 := List.all_eq_true.mp h w hw
  rw [hp] at hw
  obtain ⟨i, -, hi⟩ := List.mem_filterMap.mp hw
  have hm : w ∈ big := by first | exact List.mem_of_getElem? hi | exact List.getElem?_mem hi
  exact ⟨hm, good_of_word h1⟩
theorem goodIn_app {big a b : List Cond} (ha : GoodIn big a) (hb : GoodIn big b) : GoodIn big (a ++ b) := fun w h => (List.mem_append.mp h).elim (ha w) (hb w)
theorem goodIn_ca {big a b : List Cond} {c : Cond} (ha : GoodIn big (c :: a)) (hb : GoodIn big b) : GoodIn big (c :: (a ++ b)) := fun w h => (List.mem_cons.mp h).elim (fun e => ha w (List.mem_cons.mpr (Or.inl e))) (fun h => (List.mem_append.mp h).elim (fun h => ha w (List.mem_cons.mpr (Or.inr h))) (hb w))
theorem goodIn_sub {big ws : List Cond} (hm : ∀ w ∈ ws, w ∈ big) (h : ws.all goodWord = true) : GoodIn big ws := fun w hw => ⟨hm w hw, good_of_word (List.all_eq_true.mp h w hw)⟩
/-! ===== END ===== -/

/-! ===== BEGIN printed: names, fields, word lists, decode rows ===== -/
def RX0 : String := "FilledForOne$Arrivals"
def TX0 : u_T := fun k => match k with
  | 0 => ("FilledForOne$Arrivals", "minutes", "[I", true)
  | 1 => ("FilledForOne$Arrivals", "wants", "[I", true)
  | _ => ("FilledForOne$Arrivals", "count", "I", false)
def tyX0 : Nat → FieldType := fun k => match k with
  | 0 => .array .int
  | 1 => .array .int
  | _ => .int
abbrev wsX00 : List Cond := u_ws RX0 TX0 3
theorem nmX0 : ∀ a, a < 3 → ∀ b, b < 3 → a ≠ b → (TX0 a).2.1 ≠ (TX0 b).2.1 := by decide +kernel
theorem tyX0_ok : ∀ k, k < 3 → parseFieldDescriptor (TX0 k).2.2.1 = some (tyX0 k) := by decide +kernel
abbrev cX0_init : ByteArray := prog_2_method_1_code
def yX0_init : MethodName := ⟨RX0, "<init>", "()V"⟩
abbrev cX0_take : ByteArray := prog_2_method_2_code
def yX0_take : MethodName := ⟨RX0, "take", "(LFilledForOne$Day;)V"⟩
abbrev cX0_insert : ByteArray := prog_2_method_3_code
def yX0_insert : MethodName := ⟨RX0, "insert", "(II)V"⟩
abbrev cX0_hours : ByteArray := prog_2_method_4_code
def yX0_hours : MethodName := ⟨RX0, "hours", "()I"⟩
abbrev cX0_leastBoils : ByteArray := prog_2_method_5_code
def yX0_leastBoils : MethodName := ⟨RX0, "leastBoils", "(LFilledForOne$Day;Z)I"⟩
abbrev cX0_boilsCost : ByteArray := prog_2_method_6_code
def yX0_boilsCost : MethodName := ⟨RX0, "boilsCost", "(I[I)I"⟩
abbrev cX0_waitedTill : ByteArray := prog_2_method_7_code
def yX0_waitedTill : MethodName := ⟨RX0, "waitedTill", "(III)I"⟩
abbrev cX0_waitedForSeats : ByteArray := prog_2_method_8_code
def yX0_waitedForSeats : MethodName := ⟨RX0, "waitedForSeats", "(II)I"⟩
abbrev cX0_waitedForTimes : ByteArray := prog_2_method_9_code
def yX0_waitedForTimes : MethodName := ⟨RX0, "waitedForTimes", "(I)I"⟩
abbrev cX0_bestSeats : ByteArray := prog_2_method_10_code
def yX0_bestSeats : MethodName := ⟨RX0, "bestSeats", "(I)I"⟩
def RX1 : String := "FilledForOne$Comer"
def TX1 : u_T := fun k => match k with
  | 0 => ("FilledForOne$Comer", "kind", "I", false)
  | 1 => ("FilledForOne$Comer", "figure", "I", false)
  | 2 => ("FilledForOne$Comer", "minute", "I", false)
  | 3 => ("FilledForOne$Comer", "wants", "I", false)
  | 4 => ("FilledForOne$Comer", "patience", "I", false)
  | 5 => ("FilledForOne$Comer", "state", "I", false)
  | _ => ("FilledForOne$Comer", "servedAt", "I", false)
def tyX1 : Nat → FieldType := fun k => match k with
  | 0 => .int
  | 1 => .int
  | 2 => .int
  | 3 => .int
  | 4 => .int
  | 5 => .int
  | _ => .int
abbrev wsX10 : List Cond := u_ws RX1 TX1 7
theorem nmX1 : ∀ a, a < 7 → ∀ b, b < 7 → a ≠ b → (TX1 a).2.1 ≠ (TX1 b).2.1 := by decide +kernel
theorem tyX1_ok : ∀ k, k < 7 → parseFieldDescriptor (TX1 k).2.2.1 = some (tyX1 k) := by decide +kernel
abbrev cX1_init : ByteArray := prog_3_method_1_code
def yX1_init : MethodName := ⟨RX1, "<init>", "()V"⟩
abbrev cX1_copy : ByteArray := prog_3_method_2_code
def yX1_copy : MethodName := ⟨RX1, "copy", "(LFilledForOne$Comer;)V"⟩
abbrev cX1_become : ByteArray := prog_3_method_3_code
def yX1_become : MethodName := ⟨RX1, "become", "(II)V"⟩
abbrev cX1_waited : ByteArray := prog_3_method_4_code
def yX1_waited : MethodName := ⟨RX1, "waited", "()I"⟩
abbrev cX1_tell : ByteArray := prog_3_method_5_code
def yX1_tell : MethodName := ⟨RX1, "tell", "(I)I"⟩
def RX2 : String := "FilledForOne$Day"
def TX2 : u_T := fun k => match k with
  | 0 => ("FilledForOne$Day", "settings", "[I", true)
  | 1 => ("FilledForOne$Day", "comers", "[LFilledForOne$Comer;", true)
  | 2 => ("FilledForOne$Day", "kettles", "[LFilledForOne$Kettle;", true)
  | 3 => ("FilledForOne$Day", "line", "[I", true)
  | 4 => ("FilledForOne$Day", "known", "I", false)
  | 5 => ("FilledForOne$Day", "lined", "I", false)
  | 6 => ("FilledForOne$Day", "minute", "I", false)
  | _ => ("FilledForOne$Day", "boils", "I", false)
def tyX2 : Nat → FieldType := fun k => match k with
  | 0 => .array .int
  | 1 => .array (.object "FilledForOne$Comer")
  | 2 => .array (.object "FilledForOne$Kettle")
  | 3 => .array .int
  | 4 => .int
  | 5 => .int
  | 6 => .int
  | _ => .int
abbrev wsX20 : List Cond := u_ws RX2 TX2 8
theorem nmX2 : ∀ a, a < 8 → ∀ b, b < 8 → a ≠ b → (TX2 a).2.1 ≠ (TX2 b).2.1 := by decide +kernel
theorem tyX2_ok : ∀ k, k < 8 → parseFieldDescriptor (TX2 k).2.2.1 = some (tyX2 k) := by decide +kernel
abbrev cX2_init : ByteArray := prog_4_method_1_code
def yX2_init : MethodName := ⟨RX2, "<init>", "()V"⟩
abbrev cX2_copy : ByteArray := prog_4_method_2_code
def yX2_copy : MethodName := ⟨RX2, "copy", "(LFilledForOne$Day;)V"⟩
abbrev cX2_begin : ByteArray := prog_4_method_3_code
def yX2_begin : MethodName := ⟨RX2, "begin", "()V"⟩
abbrev cX2_hasComer : ByteArray := prog_4_method_4_code
def yX2_hasComer : MethodName := ⟨RX2, "hasComer", "(I)Z"⟩
abbrev cX2_kettlesInUse : ByteArray := prog_4_method_5_code
def yX2_kettlesInUse : MethodName := ⟨RX2, "kettlesInUse", "()I"⟩
abbrev cX2_settingRefusal : ByteArray := prog_4_method_6_code
def yX2_settingRefusal : MethodName := ⟨RX2, "settingRefusal", "(II)I"⟩
abbrev cX2_change : ByteArray := prog_4_method_7_code
def yX2_change : MethodName := ⟨RX2, "change", "(II)I"⟩
abbrev cX2_add : ByteArray := prog_4_method_8_code
def yX2_add : MethodName := ⟨RX2, "add", "(IIIII)Z"⟩
abbrev cX2_isOver : ByteArray := prog_4_method_9_code
def yX2_isOver : MethodName := ⟨RX2, "isOver", "()Z"⟩
abbrev cX2_allFree : ByteArray := prog_4_method_10_code
def yX2_allFree : MethodName := ⟨RX2, "allFree", "()Z"⟩
abbrev cX2_pass : ByteArray := prog_4_method_11_code
def yX2_pass : MethodName := ⟨RX2, "pass", "(I)V"⟩
abbrev cX2_passMinute : ByteArray := prog_4_method_12_code
def yX2_passMinute : MethodName := ⟨RX2, "passMinute", "()V"⟩
abbrev cX2_lineUp : ByteArray := prog_4_method_13_code
def yX2_lineUp : MethodName := ⟨RX2, "lineUp", "()V"⟩
abbrev cX2_loseImpatient : ByteArray := prog_4_method_14_code
def yX2_loseImpatient : MethodName := ⟨RX2, "loseImpatient", "()V"⟩
abbrev cX2_serve : ByteArray := prog_4_method_15_code
def yX2_serve : MethodName := ⟨RX2, "serve", "(I)Z"⟩
abbrev cX2_boil : ByteArray := prog_4_method_16_code
def yX2_boil : MethodName := ⟨RX2, "boil", "(I)V"⟩
abbrev cX2_firstReady : ByteArray := prog_4_method_17_code
def yX2_firstReady : MethodName := ⟨RX2, "firstReady", "(I)LFilledForOne$Kettle;"⟩
abbrev cX2_firstFree : ByteArray := prog_4_method_18_code
def yX2_firstFree : MethodName := ⟨RX2, "firstFree", "()LFilledForOne$Kettle;"⟩
abbrev cX2_waitsForOwn : ByteArray := prog_4_method_19_code
def yX2_waitsForOwn : MethodName := ⟨RX2, "waitsForOwn", "(I)Z"⟩
abbrev cX2_closeUp : ByteArray := prog_4_method_20_code
def yX2_closeUp : MethodName := ⟨RX2, "closeUp", "()V"⟩
abbrev cX2_coolDown : ByteArray := prog_4_method_21_code
def yX2_coolDown : MethodName := ⟨RX2, "coolDown", "()V"⟩
abbrev cX2_upTo : ByteArray := prog_4_method_22_code
def yX2_upTo : MethodName := ⟨RX2, "upTo", "(LFilledForOne$Comer;I)I"⟩
abbrev cX2_wantsInLine : ByteArray := prog_4_method_23_code
def yX2_wantsInLine : MethodName := ⟨RX2, "wantsInLine", "()I"⟩
abbrev cX2_wantsToCome : ByteArray := prog_4_method_24_code
def yX2_wantsToCome : MethodName := ⟨RX2, "wantsToCome", "(I)I"⟩
abbrev cX2_kindsThatFill : ByteArray := prog_4_method_25_code
def yX2_kindsThatFill : MethodName := ⟨RX2, "kindsThatFill", "(I)I"⟩
abbrev cX2_comersWith : ByteArray := prog_4_method_26_code
def yX2_comersWith : MethodName := ⟨RX2, "comersWith", "(I)I"⟩
abbrev cX2_someoneWantsTooMuch : ByteArray := prog_4_method_27_code
def yX2_someoneWantsTooMuch : MethodName := ⟨RX2, "someoneWantsTooMuch", "()Z"⟩
abbrev cX2_allWaited : ByteArray := prog_4_method_28_code
def yX2_allWaited : MethodName := ⟨RX2, "allWaited", "()I"⟩
abbrev cX2_cupsLeft : ByteArray := prog_4_method_29_code
def yX2_cupsLeft : MethodName := ⟨RX2, "cupsLeft", "()I"⟩
abbrev cX2_highestLevel : ByteArray := prog_4_method_30_code
def yX2_highestLevel : MethodName := ⟨RX2, "highestLevel", "()I"⟩
abbrev cX2_cost : ByteArray := prog_4_method_31_code
def yX2_cost : MethodName := ⟨RX2, "cost", "()I"⟩
def RX3 : String := "FilledForOne$Kettle"
def TX3 : u_T := fun k => match k with
  | 0 => ("FilledForOne$Kettle", "level", "I", false)
  | 1 => ("FilledForOne$Kettle", "warmth", "I", false)
  | 2 => ("FilledForOne$Kettle", "age", "I", false)
  | 3 => ("FilledForOne$Kettle", "busyTill", "I", false)
  | _ => ("FilledForOne$Kettle", "putOnBy", "I", false)
def tyX3 : Nat → FieldType := fun k => match k with
  | 0 => .int
  | 1 => .int
  | 2 => .int
  | 3 => .int
  | _ => .int
abbrev wsX30 : List Cond := u_ws RX3 TX3 5
theorem nmX3 : ∀ a, a < 5 → ∀ b, b < 5 → a ≠ b → (TX3 a).2.1 ≠ (TX3 b).2.1 := by decide +kernel
theorem tyX3_ok : ∀ k, k < 5 → parseFieldDescriptor (TX3 k).2.2.1 = some (tyX3 k) := by decide +kernel
abbrev cX3_init : ByteArray := prog_5_method_1_code
def yX3_init : MethodName := ⟨RX3, "<init>", "()V"⟩
abbrev cX3_copy : ByteArray := prog_5_method_2_code
def yX3_copy : MethodName := ⟨RX3, "copy", "(LFilledForOne$Kettle;)V"⟩
abbrev cX3_begin : ByteArray := prog_5_method_3_code
def yX3_begin : MethodName := ⟨RX3, "begin", "()V"⟩
abbrev cX3_isFree : ByteArray := prog_5_method_4_code
def yX3_isFree : MethodName := ⟨RX3, "isFree", "(I)Z"⟩
abbrev cX3_isReady : ByteArray := prog_5_method_5_code
def yX3_isReady : MethodName := ⟨RX3, "isReady", "(II)Z"⟩
abbrev cX3_fill : ByteArray := prog_5_method_6_code
def yX3_fill : MethodName := ⟨RX3, "fill", "(I)V"⟩
abbrev cX3_putOn : ByteArray := prog_5_method_7_code
def yX3_putOn : MethodName := ⟨RX3, "putOn", "(III)V"⟩
abbrev cX3_cool : ByteArray := prog_5_method_8_code
def yX3_cool : MethodName := ⟨RX3, "cool", "(I)V"⟩
abbrev cX3_tell : ByteArray := prog_5_method_9_code
def yX3_tell : MethodName := ⟨RX3, "tell", "(II)I"⟩
def RX4 : String := "FilledForOne$Letters"
def TX4 : u_T := fun k => match k with
  | 0 => ("FilledForOne$Letters", "text", "[I", true)
  | 1 => ("FilledForOne$Letters", "length", "I", false)
  | _ => ("FilledForOne$Letters", "at", "I", false)
def tyX4 : Nat → FieldType := fun k => match k with
  | 0 => .array .int
  | 1 => .int
  | _ => .int
abbrev wsX40 : List Cond := u_ws RX4 TX4 3
theorem nmX4 : ∀ a, a < 3 → ∀ b, b < 3 → a ≠ b → (TX4 a).2.1 ≠ (TX4 b).2.1 := by decide +kernel
theorem tyX4_ok : ∀ k, k < 3 → parseFieldDescriptor (TX4 k).2.2.1 = some (tyX4 k) := by decide +kernel
abbrev cX4_init : ByteArray := prog_6_method_1_code
def yX4_init : MethodName := ⟨RX4, "<init>", "()V"⟩
abbrev cX4_append : ByteArray := prog_6_method_2_code
def yX4_append : MethodName := ⟨RX4, "append", "(I)I"⟩
abbrev cX4_read : ByteArray := prog_6_method_3_code
def yX4_read : MethodName := ⟨RX4, "read", "(LFilledForOne$Day;)I"⟩
abbrev cX4_skipStatement : ByteArray := prog_6_method_4_code
def yX4_skipStatement : MethodName := ⟨RX4, "skipStatement", "()Z"⟩
abbrev cX4_skip : ByteArray := prog_6_method_5_code
def yX4_skip : MethodName := ⟨RX4, "skip", "(C)Z"⟩
abbrev cX4_skipDigits : ByteArray := prog_6_method_6_code
def yX4_skipDigits : MethodName := ⟨RX4, "skipDigits", "(I)Z"⟩
abbrev cX4_carryOut : ByteArray := prog_6_method_7_code
def yX4_carryOut : MethodName := ⟨RX4, "carryOut", "(LFilledForOne$Day;I)Z"⟩
abbrev cX4_number : ByteArray := prog_6_method_8_code
def yX4_number : MethodName := ⟨RX4, "number", "(II)I"⟩
abbrev cX4_letterAt : ByteArray := prog_6_method_9_code
def yX4_letterAt : MethodName := ⟨RX4, "letterAt", "(I)I"⟩
def RX5 : String := "FilledForOne$Mind"
def TX5 : u_T := fun k => match k with
  | 0 => ("FilledForOne$Mind", "day", "LFilledForOne$Day;", true)
  | _ => ("FilledForOne$Mind", "seed", "I", false)
def tyX5 : Nat → FieldType := fun k => match k with
  | 0 => .object "FilledForOne$Day"
  | _ => .int
abbrev wsX50 : List Cond := u_ws RX5 TX5 2
theorem nmX5 : ∀ a, a < 2 → ∀ b, b < 2 → a ≠ b → (TX5 a).2.1 ≠ (TX5 b).2.1 := by decide +kernel
theorem tyX5_ok : ∀ k, k < 2 → parseFieldDescriptor (TX5 k).2.2.1 = some (tyX5 k) := by decide +kernel
abbrev cX5_init : ByteArray := prog_7_method_1_code
def yX5_init : MethodName := ⟨RX5, "<init>", "()V"⟩
abbrev cX5_take : ByteArray := prog_7_method_2_code
def yX5_take : MethodName := ⟨RX5, "take", "(LFilledForOne$Day;)V"⟩
abbrev cX5_restOfDay : ByteArray := prog_7_method_3_code
def yX5_restOfDay : MethodName := ⟨RX5, "restOfDay", "(I)I"⟩
abbrev cX5_servedAt : ByteArray := prog_7_method_4_code
def yX5_servedAt : MethodName := ⟨RX5, "servedAt", "(I)I"⟩
abbrev cX5_costAnew : ByteArray := prog_7_method_5_code
def yX5_costAnew : MethodName := ⟨RX5, "costAnew", "()I"⟩
abbrev cX5_bestKind : ByteArray := prog_7_method_6_code
def yX5_bestKind : MethodName := ⟨RX5, "bestKind", "(IZ)I"⟩
abbrev cX5_playRounds : ByteArray := prog_7_method_7_code
def yX5_playRounds : MethodName := ⟨RX5, "playRounds", "()I"⟩
abbrev cX5_kindDigits : ByteArray := prog_7_method_8_code
def yX5_kindDigits : MethodName := ⟨RX5, "kindDigits", "()I"⟩
abbrev cX5_lostByKinds : ByteArray := prog_7_method_9_code
def yX5_lostByKinds : MethodName := ⟨RX5, "lostByKinds", "()I"⟩
abbrev cX5_bestMark : ByteArray := prog_7_method_10_code
def yX5_bestMark : MethodName := ⟨RX5, "bestMark", "(Z)I"⟩
abbrev cX5_savedBySecond : ByteArray := prog_7_method_11_code
def yX5_savedBySecond : MethodName := ⟨RX5, "savedBySecond", "()I"⟩
abbrev cX5_comerToFollow : ByteArray := prog_7_method_12_code
def yX5_comerToFollow : MethodName := ⟨RX5, "comerToFollow", "(LFilledForOne$Day;)I"⟩
abbrev cX5_firstOtherLevel : ByteArray := prog_7_method_13_code
def yX5_firstOtherLevel : MethodName := ⟨RX5, "firstOtherLevel", "([II)I"⟩
abbrev cX5_drawnDays : ByteArray := prog_7_method_14_code
def yX5_drawnDays : MethodName := ⟨RX5, "drawnDays", "(IIZ)I"⟩
abbrev cX5_draw : ByteArray := prog_7_method_15_code
def yX5_draw : MethodName := ⟨RX5, "draw", "(I)I"⟩
def RX6 : String := "FilledForOne"
def TX6 : u_T := fun k => match k with
  | 0 => ("FilledForOne", "now", "LFilledForOne$Day;", true)
  | 1 => ("FilledForOne", "kept", "LFilledForOne$Day;", true)
  | 2 => ("FilledForOne", "mind", "LFilledForOne$Mind;", true)
  | 3 => ("FilledForOne", "arrivals", "LFilledForOne$Arrivals;", true)
  | 4 => ("FilledForOne", "letters", "LFilledForOne$Letters;", true)
  | 5 => ("FilledForOne", "row", "[I", true)
  | 6 => ("FilledForOne", "refusals", "[I", true)
  | 7 => ("FilledForOne", "inRow", "I", false)
  | _ => ("FilledForOne", "imageTaken", "Z", false)
def tyX6 : Nat → FieldType := fun k => match k with
  | 0 => .object "FilledForOne$Day"
  | 1 => .object "FilledForOne$Day"
  | 2 => .object "FilledForOne$Mind"
  | 3 => .object "FilledForOne$Arrivals"
  | 4 => .object "FilledForOne$Letters"
  | 5 => .array .int
  | 6 => .array .int
  | 7 => .int
  | _ => .boolean
abbrev wsX60 : List Cond := u_ws RX6 TX6 9
theorem nmX6 : ∀ a, a < 9 → ∀ b, b < 9 → a ≠ b → (TX6 a).2.1 ≠ (TX6 b).2.1 := by decide +kernel
theorem tyX6_ok : ∀ k, k < 9 → parseFieldDescriptor (TX6 k).2.2.1 = some (tyX6 k) := by decide +kernel
abbrev cX6_init : ByteArray := prog_1_method_1_code
def yX6_init : MethodName := ⟨RX6, "<init>", "()V"⟩
abbrev cX6_feed : ByteArray := prog_1_method_2_code
def yX6_feed : MethodName := ⟨RX6, "feed", "(I)I"⟩
abbrev cX6_office : ByteArray := prog_1_method_3_code
def yX6_office : MethodName := ⟨RX6, "office", "()I"⟩
abbrev cX6_comer : ByteArray := prog_1_method_4_code
def yX6_comer : MethodName := ⟨RX6, "comer", "(II)I"⟩
abbrev cX6_kind : ByteArray := prog_1_method_5_code
def yX6_kind : MethodName := ⟨RX6, "kind", "(III)I"⟩
abbrev cX6_kettle : ByteArray := prog_1_method_6_code
def yX6_kettle : MethodName := ⟨RX6, "kettle", "(II)I"⟩
abbrev cX6_set : ByteArray := prog_1_method_7_code
def yX6_set : MethodName := ⟨RX6, "set", "(II)I"⟩
abbrev cX6_go : ByteArray := prog_1_method_8_code
def yX6_go : MethodName := ⟨RX6, "go", "(I)I"⟩
abbrev cX6_anew : ByteArray := prog_1_method_9_code
def yX6_anew : MethodName := ⟨RX6, "anew", "()I"⟩
abbrev cX6_line : ByteArray := prog_1_method_10_code
def yX6_line : MethodName := ⟨RX6, "line", "(I)I"⟩
abbrev cX6_rest : ByteArray := prog_1_method_11_code
def yX6_rest : MethodName := ⟨RX6, "rest", "(I)I"⟩
abbrev cX6_when : ByteArray := prog_1_method_12_code
def yX6_when : MethodName := ⟨RX6, "when", "(I)I"⟩
abbrev cX6_best : ByteArray := prog_1_method_13_code
def yX6_best : MethodName := ⟨RX6, "best", "(II)I"⟩
abbrev cX6_rounds : ByteArray := prog_1_method_14_code
def yX6_rounds : MethodName := ⟨RX6, "rounds", "(I)I"⟩
abbrev cX6_marks : ByteArray := prog_1_method_15_code
def yX6_marks : MethodName := ⟨RX6, "marks", "(I)I"⟩
abbrev cX6_second : ByteArray := prog_1_method_16_code
def yX6_second : MethodName := ⟨RX6, "second", "()I"⟩
abbrev cX6_urn : ByteArray := prog_1_method_17_code
def yX6_urn : MethodName := ⟨RX6, "urn", "(I)I"⟩
abbrev cX6_least : ByteArray := prog_1_method_18_code
def yX6_least : MethodName := ⟨RX6, "least", "(I)I"⟩
abbrev cX6_ferry : ByteArray := prog_1_method_19_code
def yX6_ferry : MethodName := ⟨RX6, "ferry", "(II)I"⟩
abbrev cX6_times : ByteArray := prog_1_method_20_code
def yX6_times : MethodName := ⟨RX6, "times", "(I)I"⟩
abbrev cX6_better : ByteArray := prog_1_method_21_code
def yX6_better : MethodName := ⟨RX6, "better", "(I)I"⟩
abbrev cX6_follow : ByteArray := prog_1_method_22_code
def yX6_follow : MethodName := ⟨RX6, "follow", "()I"⟩
abbrev cX6_row : ByteArray := prog_1_method_23_code
def yX6_row : MethodName := ⟨RX6, "row", "(I)I"⟩
abbrev cX6_judge : ByteArray := prog_1_method_24_code
def yX6_judge : MethodName := ⟨RX6, "judge", "()I"⟩
abbrev cX6_fits : ByteArray := prog_1_method_25_code
def yX6_fits : MethodName := ⟨RX6, "fits", "(I)I"⟩
abbrev cX6_seeds : ByteArray := prog_1_method_26_code
def yX6_seeds : MethodName := ⟨RX6, "seeds", "(III)I"⟩
abbrev cX6_image : ByteArray := prog_1_method_27_code
def yX6_image : MethodName := ⟨RX6, "image", "()I"⟩
abbrev cX6_restore : ByteArray := prog_1_method_28_code
def yX6_restore : MethodName := ⟨RX6, "restore", "()I"⟩
abbrev cX6_count : ByteArray := prog_1_method_29_code
def yX6_count : MethodName := ⟨RX6, "count", "(I)I"⟩
abbrev cX6_refuse : ByteArray := prog_1_method_30_code
def yX6_refuse : MethodName := ⟨RX6, "refuse", "(I)I"⟩
abbrev cX6_heatingMinutes : ByteArray := prog_1_method_31_code
def yX6_heatingMinutes : MethodName := ⟨RX6, "heatingMinutes", "(III)I"⟩
def RX7 : String := "FilledForOneModel"
def TX7 : u_T := fun k => match k with
  | 0 => ("FilledForOneModel", "refused", "[I", true)
  | 1 => ("FilledForOneModel", "setting", "[I", true)
  | 2 => ("FilledForOneModel", "kind", "[I", true)
  | 3 => ("FilledForOneModel", "figure", "[I", true)
  | 4 => ("FilledForOneModel", "comes", "[I", true)
  | 5 => ("FilledForOneModel", "wants", "[I", true)
  | 6 => ("FilledForOneModel", "patience", "[I", true)
  | 7 => ("FilledForOneModel", "state", "[I", true)
  | 8 => ("FilledForOneModel", "waited", "[I", true)
  | 9 => ("FilledForOneModel", "line", "[I", true)
  | 10 => ("FilledForOneModel", "level", "[I", true)
  | 11 => ("FilledForOneModel", "warmth", "[I", true)
  | 12 => ("FilledForOneModel", "age", "[I", true)
  | 13 => ("FilledForOneModel", "busyTill", "[I", true)
  | 14 => ("FilledForOneModel", "putBy", "[I", true)
  | 15 => ("FilledForOneModel", "comers", "I", false)
  | 16 => ("FilledForOneModel", "minute", "I", false)
  | 17 => ("FilledForOneModel", "lineMany", "I", false)
  | 18 => ("FilledForOneModel", "putOn", "I", false)
  | 19 => ("FilledForOneModel", "tape", "[I", true)
  | 20 => ("FilledForOneModel", "letter", "[I", true)
  | 21 => ("FilledForOneModel", "letterAt", "[I", true)
  | 22 => ("FilledForOneModel", "told", "[I", true)
  | 23 => ("FilledForOneModel", "taped", "I", false)
  | 24 => ("FilledForOneModel", "at", "I", false)
  | 25 => ("FilledForOneModel", "statements", "I", false)
  | 26 => ("FilledForOneModel", "kept", "[I", true)
  | 27 => ("FilledForOneModel", "hasImage", "Z", false)
  | 28 => ("FilledForOneModel", "isKeeping", "Z", false)
  | 29 => ("FilledForOneModel", "cursor", "I", false)
  | 30 => ("FilledForOneModel", "byMinute", "[I", true)
  | 31 => ("FilledForOneModel", "row", "[I", true)
  | _ => ("FilledForOneModel", "rowMany", "I", false)
def tyX7 : Nat → FieldType := fun k => match k with
  | 0 => .array .int
  | 1 => .array .int
  | 2 => .array .int
  | 3 => .array .int
  | 4 => .array .int
  | 5 => .array .int
  | 6 => .array .int
  | 7 => .array .int
  | 8 => .array .int
  | 9 => .array .int
  | 10 => .array .int
  | 11 => .array .int
  | 12 => .array .int
  | 13 => .array .int
  | 14 => .array .int
  | 15 => .int
  | 16 => .int
  | 17 => .int
  | 18 => .int
  | 19 => .array .int
  | 20 => .array .int
  | 21 => .array .int
  | 22 => .array .int
  | 23 => .int
  | 24 => .int
  | 25 => .int
  | 26 => .array .int
  | 27 => .boolean
  | 28 => .boolean
  | 29 => .int
  | 30 => .array .int
  | 31 => .array .int
  | _ => .int
abbrev wsX70 : List Cond := u_ws RX7 TX7 33
theorem nmX7 : ∀ a, a < 33 → ∀ b, b < 33 → a ≠ b → (TX7 a).2.1 ≠ (TX7 b).2.1 := by decide +kernel
theorem tyX7_ok : ∀ k, k < 33 → parseFieldDescriptor (TX7 k).2.2.1 = some (tyX7 k) := by decide +kernel
abbrev cX7_init : ByteArray := prog_9_method_1_code
def yX7_init : MethodName := ⟨RX7, "<init>", "()V"⟩
abbrev cX7_no : ByteArray := prog_9_method_2_code
def yX7_no : MethodName := ⟨RX7, "no", "(I)I"⟩
abbrev cX7_lower : ByteArray := prog_9_method_3_code
def yX7_lower : MethodName := ⟨RX7, "lower", "(I)I"⟩
abbrev cX7_isIn : ByteArray := prog_9_method_4_code
def yX7_isIn : MethodName := ⟨RX7, "isIn", "(III)Z"⟩
abbrev cX7_bound : ByteArray := prog_9_method_5_code
def yX7_bound : MethodName := ⟨RX7, "bound", "(III)I"⟩
abbrev cX7_leastOf : ByteArray := prog_9_method_6_code
def yX7_leastOf : MethodName := ⟨RX7, "leastOf", "(I)I"⟩
abbrev cX7_mostOf : ByteArray := prog_9_method_7_code
def yX7_mostOf : MethodName := ⟨RX7, "mostOf", "(I)I"⟩
abbrev cX7_isComer : ByteArray := prog_9_method_8_code
def yX7_isComer : MethodName := ⟨RX7, "isComer", "(I)Z"⟩
abbrev cX7_feed : ByteArray := prog_9_method_9_code
def yX7_feed : MethodName := ⟨RX7, "feed", "(I)I"⟩
abbrev cX7_next : ByteArray := prog_9_method_10_code
def yX7_next : MethodName := ⟨RX7, "next", "()I"⟩
abbrev cX7_readsNumber : ByteArray := prog_9_method_11_code
def yX7_readsNumber : MethodName := ⟨RX7, "readsNumber", "(III)Z"⟩
abbrev cX7_readsSetting : ByteArray := prog_9_method_12_code
def yX7_readsSetting : MethodName := ⟨RX7, "readsSetting", "(I)Z"⟩
abbrev cX7_readsComer : ByteArray := prog_9_method_13_code
def yX7_readsComer : MethodName := ⟨RX7, "readsComer", "(I)Z"⟩
abbrev cX7_statement : ByteArray := prog_9_method_14_code
def yX7_statement : MethodName := ⟨RX7, "statement", "()Z"⟩
abbrev cX7_notSet : ByteArray := prog_9_method_15_code
def yX7_notSet : MethodName := ⟨RX7, "notSet", "(II)I"⟩
abbrev cX7_comesOne : ByteArray := prog_9_method_16_code
def yX7_comesOne : MethodName := ⟨RX7, "comesOne", "(I)Z"⟩
abbrev cX7_comesAs : ByteArray := prog_9_method_17_code
def yX7_comesAs : MethodName := ⟨RX7, "comesAs", "(I)Z"⟩
abbrev cX7_office : ByteArray := prog_9_method_18_code
def yX7_office : MethodName := ⟨RX7, "office", "()I"⟩
abbrev cX7_passes : ByteArray := prog_9_method_19_code
def yX7_passes : MethodName := ⟨RX7, "passes", "([I)V"⟩
abbrev cX7_passOne : ByteArray := prog_9_method_20_code
def yX7_passOne : MethodName := ⟨RX7, "passOne", "(I)I"⟩
abbrev cX7_passesAll : ByteArray := prog_9_method_21_code
def yX7_passesAll : MethodName := ⟨RX7, "passesAll", "(IZ)V"⟩
abbrev cX7_image : ByteArray := prog_9_method_22_code
def yX7_image : MethodName := ⟨RX7, "image", "()I"⟩
abbrev cX7_restore : ByteArray := prog_9_method_23_code
def yX7_restore : MethodName := ⟨RX7, "restore", "()I"⟩
abbrev cX7_wantsInLine : ByteArray := prog_9_method_24_code
def yX7_wantsInLine : MethodName := ⟨RX7, "wantsInLine", "()I"⟩
abbrev cX7_wantsSoon : ByteArray := prog_9_method_25_code
def yX7_wantsSoon : MethodName := ⟨RX7, "wantsSoon", "(I)I"⟩
abbrev cX7_cupsBy : ByteArray := prog_9_method_26_code
def yX7_cupsBy : MethodName := ⟨RX7, "cupsBy", "(II)I"⟩
abbrev cX7_upTo : ByteArray := prog_9_method_27_code
def yX7_upTo : MethodName := ⟨RX7, "upTo", "(II)I"⟩
abbrev cX7_isFree : ByteArray := prog_9_method_28_code
def yX7_isFree : MethodName := ⟨RX7, "isFree", "(I)Z"⟩
abbrev cX7_boilTime : ByteArray := prog_9_method_29_code
def yX7_boilTime : MethodName := ⟨RX7, "boilTime", "(II)I"⟩
abbrev cX7_putsOn : ByteArray := prog_9_method_30_code
def yX7_putsOn : MethodName := ⟨RX7, "putsOn", "(II)V"⟩
abbrev cX7_hotFor : ByteArray := prog_9_method_31_code
def yX7_hotFor : MethodName := ⟨RX7, "hotFor", "(I)I"⟩
abbrev cX7_freeFor : ByteArray := prog_9_method_32_code
def yX7_freeFor : MethodName := ⟨RX7, "freeFor", "(I)I"⟩
abbrev cX7_isServed : ByteArray := prog_9_method_33_code
def yX7_isServed : MethodName := ⟨RX7, "isServed", "(I)Z"⟩
abbrev cX7_leaves : ByteArray := prog_9_method_34_code
def yX7_leaves : MethodName := ⟨RX7, "leaves", "(I)V"⟩
abbrev cX7_cools : ByteArray := prog_9_method_35_code
def yX7_cools : MethodName := ⟨RX7, "cools", "()V"⟩
abbrev cX7_goesMinute : ByteArray := prog_9_method_36_code
def yX7_goesMinute : MethodName := ⟨RX7, "goesMinute", "()V"⟩
abbrev cX7_isOver : ByteArray := prog_9_method_37_code
def yX7_isOver : MethodName := ⟨RX7, "isOver", "()Z"⟩
abbrev cX7_goesToEnd : ByteArray := prog_9_method_38_code
def yX7_goesToEnd : MethodName := ⟨RX7, "goesToEnd", "()V"⟩
abbrev cX7_begins : ByteArray := prog_9_method_39_code
def yX7_begins : MethodName := ⟨RX7, "begins", "()V"⟩
abbrev cX7_stateMany : ByteArray := prog_9_method_40_code
def yX7_stateMany : MethodName := ⟨RX7, "stateMany", "(I)I"⟩
abbrev cX7_waitedAll : ByteArray := prog_9_method_41_code
def yX7_waitedAll : MethodName := ⟨RX7, "waitedAll", "()I"⟩
abbrev cX7_costNow : ByteArray := prog_9_method_42_code
def yX7_costNow : MethodName := ⟨RX7, "costNow", "()I"⟩
abbrev cX7_costAnew : ByteArray := prog_9_method_43_code
def yX7_costAnew : MethodName := ⟨RX7, "costAnew", "()I"⟩
abbrev cX7_comer : ByteArray := prog_9_method_44_code
def yX7_comer : MethodName := ⟨RX7, "comer", "(II)I"⟩
abbrev cX7_kind : ByteArray := prog_9_method_45_code
def yX7_kind : MethodName := ⟨RX7, "kind", "(III)I"⟩
abbrev cX7_kettle : ByteArray := prog_9_method_46_code
def yX7_kettle : MethodName := ⟨RX7, "kettle", "(II)I"⟩
abbrev cX7_set : ByteArray := prog_9_method_47_code
def yX7_set : MethodName := ⟨RX7, "set", "(II)I"⟩
abbrev cX7_go : ByteArray := prog_9_method_48_code
def yX7_go : MethodName := ⟨RX7, "go", "(I)I"⟩
abbrev cX7_anew : ByteArray := prog_9_method_49_code
def yX7_anew : MethodName := ⟨RX7, "anew", "()I"⟩
abbrev cX7_line : ByteArray := prog_9_method_50_code
def yX7_line : MethodName := ⟨RX7, "line", "(I)I"⟩
abbrev cX7_rest : ByteArray := prog_9_method_51_code
def yX7_rest : MethodName := ⟨RX7, "rest", "(I)I"⟩
abbrev cX7_when : ByteArray := prog_9_method_52_code
def yX7_when : MethodName := ⟨RX7, "when", "(I)I"⟩
abbrev cX7_bestKind : ByteArray := prog_9_method_53_code
def yX7_bestKind : MethodName := ⟨RX7, "bestKind", "(II)I"⟩
abbrev cX7_best : ByteArray := prog_9_method_54_code
def yX7_best : MethodName := ⟨RX7, "best", "(II)I"⟩
abbrev cX7_goesRounds : ByteArray := prog_9_method_55_code
def yX7_goesRounds : MethodName := ⟨RX7, "goesRounds", "()I"⟩
abbrev cX7_kindsDigits : ByteArray := prog_9_method_56_code
def yX7_kindsDigits : MethodName := ⟨RX7, "kindsDigits", "()I"⟩
abbrev cX7_leastOfOneKind : ByteArray := prog_9_method_57_code
def yX7_leastOfOneKind : MethodName := ⟨RX7, "leastOfOneKind", "()I"⟩
abbrev cX7_rounds : ByteArray := prog_9_method_58_code
def yX7_rounds : MethodName := ⟨RX7, "rounds", "(I)I"⟩
abbrev cX7_marks : ByteArray := prog_9_method_59_code
def yX7_marks : MethodName := ⟨RX7, "marks", "(I)I"⟩
abbrev cX7_second : ByteArray := prog_9_method_60_code
def yX7_second : MethodName := ⟨RX7, "second", "()I"⟩
abbrev cX7_hours : ByteArray := prog_9_method_61_code
def yX7_hours : MethodName := ⟨RX7, "hours", "()I"⟩
abbrev cX7_urn : ByteArray := prog_9_method_62_code
def yX7_urn : MethodName := ⟨RX7, "urn", "(I)I"⟩
abbrev cX7_sorts : ByteArray := prog_9_method_63_code
def yX7_sorts : MethodName := ⟨RX7, "sorts", "()V"⟩
abbrev cX7_costOfRows : ByteArray := prog_9_method_64_code
def yX7_costOfRows : MethodName := ⟨RX7, "costOfRows", "(I)I"⟩
abbrev cX7_least : ByteArray := prog_9_method_65_code
def yX7_least : MethodName := ⟨RX7, "least", "(I)I"⟩
abbrev cX7_ferryBy : ByteArray := prog_9_method_66_code
def yX7_ferryBy : MethodName := ⟨RX7, "ferryBy", "(II)I"⟩
abbrev cX7_timesBy : ByteArray := prog_9_method_67_code
def yX7_timesBy : MethodName := ⟨RX7, "timesBy", "(I)I"⟩
abbrev cX7_ferry : ByteArray := prog_9_method_68_code
def yX7_ferry : MethodName := ⟨RX7, "ferry", "(II)I"⟩
abbrev cX7_times : ByteArray := prog_9_method_69_code
def yX7_times : MethodName := ⟨RX7, "times", "(I)I"⟩
abbrev cX7_better : ByteArray := prog_9_method_70_code
def yX7_better : MethodName := ⟨RX7, "better", "(I)I"⟩
abbrev cX7_follow : ByteArray := prog_9_method_71_code
def yX7_follow : MethodName := ⟨RX7, "follow", "()I"⟩
abbrev cX7_row : ByteArray := prog_9_method_72_code
def yX7_row : MethodName := ⟨RX7, "row", "(I)I"⟩
abbrev cX7_judge : ByteArray := prog_9_method_73_code
def yX7_judge : MethodName := ⟨RX7, "judge", "()I"⟩
abbrev cX7_fits : ByteArray := prog_9_method_74_code
def yX7_fits : MethodName := ⟨RX7, "fits", "(I)I"⟩
abbrev cX7_seeds : ByteArray := prog_9_method_75_code
def yX7_seeds : MethodName := ⟨RX7, "seeds", "(III)I"⟩
abbrev cX7_count : ByteArray := prog_9_method_76_code
def yX7_count : MethodName := ⟨RX7, "count", "(I)I"⟩
def RJx8e188 : String := "java/lang/Cloneable"
def TJx8e188 : u_T := fun k => match k with
  | _ => ("", "", "", false)
def tyJx8e188 : Nat → FieldType := fun k => match k with
  | _ => .int
abbrev wsJx8e1880 : List Cond := u_ws RJx8e188 TJx8e188 0
theorem nmJx8e188 : ∀ a, a < 0 → ∀ b, b < 0 → a ≠ b → (TJx8e188 a).2.1 ≠ (TJx8e188 b).2.1 := by decide +kernel
theorem tyJx8e188_ok : ∀ k, k < 0 → parseFieldDescriptor (TJx8e188 k).2.2.1 = some (tyJx8e188 k) := by decide +kernel
def RJ9 : String := "java/lang/Math"
def TJ9 : u_T := fun k => match k with
  | _ => ("", "", "", false)
def tyJ9 : Nat → FieldType := fun k => match k with
  | _ => .int
abbrev wsJ90 : List Cond := u_ws RJ9 TJ9 0
theorem nmJ9 : ∀ a, a < 0 → ∀ b, b < 0 → a ≠ b → (TJ9 a).2.1 ≠ (TJ9 b).2.1 := by decide +kernel
theorem tyJ9_ok : ∀ k, k < 0 → parseFieldDescriptor (TJ9 k).2.2.1 = some (tyJ9 k) := by decide +kernel
abbrev cJ9_floorMod_7cf53 : ByteArray := prog_11_method_50_code
def yJ9_floorMod_7cf53 : MethodName := ⟨RJ9, "floorMod", "(II)I"⟩
abbrev cJ9_max_7cf53 : ByteArray := prog_11_method_65_code
def yJ9_max_7cf53 : MethodName := ⟨RJ9, "max", "(II)I"⟩
abbrev cJ9_min_7cf53 : ByteArray := prog_11_method_69_code
def yJ9_min_7cf53 : MethodName := ⟨RJ9, "min", "(II)I"⟩
def RJ10 : String := "java/lang/System"
def TJ10 : u_T := fun k => match k with
  | _ => ("", "", "", false)
def tyJ10 : Nat → FieldType := fun k => match k with
  | _ => .int
abbrev wsJ100 : List Cond := u_ws RJ10 TJ10 0
theorem nmJ10 : ∀ a, a < 0 → ∀ b, b < 0 → a ≠ b → (TJ10 a).2.1 ≠ (TJ10 b).2.1 := by decide +kernel
theorem tyJ10_ok : ∀ k, k < 0 → parseFieldDescriptor (TJ10 k).2.2.1 = some (tyJ10 k) := by decide +kernel
def RL : String := "FilledForOneLaw"
abbrev cL_law : ByteArray := code
def yL_law : MethodName := ⟨RL, "law", "([I)Z"⟩
def wsX0_init : List Cond := .code yX0_init cX0_init 1 none :: ([.methodLink RX0 3 objectInit, .instanceMethod objectInit, .code objectInit ⟨#[0xb1]⟩ 1 none, .arrayClass .int, .fieldLink RX0 9 "FilledForOne$Arrivals" "minutes" "[I", .fieldLink RX0 15 "FilledForOne$Arrivals" "wants" "[I"] ++ wsX00)
def wsX0_insert : List Cond := .code yX0_insert cX0_insert 4 none :: ([.fieldLink RX0 18 "FilledForOne$Arrivals" "count" "I", .fieldLink RX0 9 "FilledForOne$Arrivals" "minutes" "[I", .fieldLink RX0 15 "FilledForOne$Arrivals" "wants" "[I"] ++ wsX00)
def wsX0_take : List Cond := .code yX0_take cX0_take 3 none :: ([.fieldLink RX0 18 "FilledForOne$Arrivals" "count" "I", .fieldLink RX0 22 "FilledForOne$Day" "known" "I", .fieldLink RX0 9 "FilledForOne$Arrivals" "minutes" "[I", .fieldLink RX0 27 "FilledForOne$Day" "comers" "[LFilledForOne$Comer;", .fieldLink RX0 31 "FilledForOne$Comer" "minute" "I", .fieldLink RX0 36 "FilledForOne$Comer" "wants" "I", .methodLink RX0 38 yX0_insert, .instanceMethod yX0_insert, .selects RX0 yX0_insert yX0_insert, .initialized RX0, .code yX0_insert cX0_insert 4 none, .fieldLink RX0 15 "FilledForOne$Arrivals" "wants" "[I"] ++ wsX00 ++ wsX20 ++ wsX10)
def wsX0_hours : List Cond := .code yX0_hours cX0_hours 1 (some .int) :: ([.fieldLink RX0 18 "FilledForOne$Arrivals" "count" "I", .fieldLink RX0 9 "FilledForOne$Arrivals" "minutes" "[I", .methodLink RX0 42 Lib.Math.max.name, .static Lib.Math.max.name, .initialized "java/lang/Math", .code Lib.Math.max.name Lib.Math.max.code 2 (some .int)] ++ wsX00)
def wsX6_heatingMinutes : List Cond := .code yX6_heatingMinutes cX6_heatingMinutes 4 (some .int) :: ([])
def wsX0_waitedTill : List Cond := .code yX0_waitedTill cX0_waitedTill 6 (some .int) :: ([.fieldLink RX0 18 "FilledForOne$Arrivals" "count" "I", .fieldLink RX0 9 "FilledForOne$Arrivals" "minutes" "[I"] ++ wsX00)
def wsX0_boilsCost : List Cond := .code yX0_boilsCost cX0_boilsCost 8 (some .int) :: ([.fieldLink RX0 18 "FilledForOne$Arrivals" "count" "I", .fieldLink RX0 15 "FilledForOne$Arrivals" "wants" "[I", .constant RX0 50 (2147483647), .fieldLink RX0 9 "FilledForOne$Arrivals" "minutes" "[I", .methodLink RX0 42 Lib.Math.max.name, .static Lib.Math.max.name, .initialized "java/lang/Math", .code Lib.Math.max.name Lib.Math.max.code 2 (some .int), .static yX6_heatingMinutes, .initialized RX6, .code yX6_heatingMinutes cX6_heatingMinutes 4 (some .int), .methodLink RX0 62 yX0_waitedTill, .instanceMethod yX0_waitedTill, .selects RX0 yX0_waitedTill yX0_waitedTill, .initialized RX0, .code yX0_waitedTill cX0_waitedTill 6 (some .int)] ++ wsX00)
def wsX0_leastBoils : List Cond := .code yX0_leastBoils cX0_leastBoils 7 (some .int) :: ([.constant RX0 50 (2147483647), .fieldLink RX0 18 "FilledForOne$Arrivals" "count" "I", .fieldLink RX0 51 "FilledForOne$Day" "settings" "[I", .methodLink RX0 54 yX0_boilsCost, .instanceMethod yX0_boilsCost, .selects RX0 yX0_boilsCost yX0_boilsCost, .initialized RX0, .code yX0_boilsCost cX0_boilsCost 8 (some .int), .fieldLink RX0 15 "FilledForOne$Arrivals" "wants" "[I", .fieldLink RX0 9 "FilledForOne$Arrivals" "minutes" "[I", .methodLink RX0 42 Lib.Math.max.name, .static Lib.Math.max.name, .initialized "java/lang/Math", .code Lib.Math.max.name Lib.Math.max.code 2 (some .int), .static yX6_heatingMinutes, .initialized RX6, .code yX6_heatingMinutes cX6_heatingMinutes 4 (some .int), .methodLink RX0 62 yX0_waitedTill, .instanceMethod yX0_waitedTill, .selects RX0 yX0_waitedTill yX0_waitedTill, .code yX0_waitedTill cX0_waitedTill 6 (some .int)] ++ wsX00 ++ wsX20)
def wsX0_waitedForSeats : List Cond := .code yX0_waitedForSeats cX0_waitedForSeats 6 (some .int) :: ([.fieldLink RX0 18 "FilledForOne$Arrivals" "count" "I", .fieldLink RX0 9 "FilledForOne$Arrivals" "minutes" "[I", .methodLink RX0 62 yX0_waitedTill, .instanceMethod yX0_waitedTill, .selects RX0 yX0_waitedTill yX0_waitedTill, .initialized RX0, .code yX0_waitedTill cX0_waitedTill 6 (some .int)] ++ wsX00)
def wsJ9_floorMod_7cf53 : List Cond := .code yJ9_floorMod_7cf53 cJ9_floorMod_7cf53 3 (some .int) :: ([])
def wsX0_waitedForTimes : List Cond := .code yX0_waitedForTimes cX0_waitedForTimes 4 (some .int) :: ([.fieldLink RX0 18 "FilledForOne$Arrivals" "count" "I", .fieldLink RX0 9 "FilledForOne$Arrivals" "minutes" "[I", .methodLink RX0 65 yJ9_floorMod_7cf53, .static yJ9_floorMod_7cf53, .initialized RJ9, .code yJ9_floorMod_7cf53 cJ9_floorMod_7cf53 3 (some .int)] ++ wsX00)
def wsX0_bestSeats : List Cond := .code yX0_bestSeats cX0_bestSeats 6 (some .int) :: ([.methodLink RX0 68 yX0_waitedForTimes, .instanceMethod yX0_waitedForTimes, .selects RX0 yX0_waitedForTimes yX0_waitedForTimes, .initialized RX0, .code yX0_waitedForTimes cX0_waitedForTimes 4 (some .int), .fieldLink RX0 18 "FilledForOne$Arrivals" "count" "I", .fieldLink RX0 9 "FilledForOne$Arrivals" "minutes" "[I", .methodLink RX0 65 yJ9_floorMod_7cf53, .static yJ9_floorMod_7cf53, .initialized RJ9, .code yJ9_floorMod_7cf53 cJ9_floorMod_7cf53 3 (some .int), .methodLink RX0 72 yX0_waitedForSeats, .instanceMethod yX0_waitedForSeats, .selects RX0 yX0_waitedForSeats yX0_waitedForSeats, .code yX0_waitedForSeats cX0_waitedForSeats 6 (some .int), .methodLink RX0 62 yX0_waitedTill, .instanceMethod yX0_waitedTill, .selects RX0 yX0_waitedTill yX0_waitedTill, .code yX0_waitedTill cX0_waitedTill 6 (some .int)] ++ wsX00)
def wsX1_init : List Cond := .code yX1_init cX1_init 1 none :: ([.methodLink RX1 3 objectInit, .instanceMethod objectInit, .code objectInit ⟨#[0xb1]⟩ 1 none])
def wsX1_become : List Cond := .code yX1_become cX1_become 3 none :: ([.fieldLink RX1 9 "FilledForOne$Comer" "kind" "I", .fieldLink RX1 15 "FilledForOne$Comer" "figure" "I"] ++ wsX10)
def wsX1_copy : List Cond := .code yX1_copy cX1_copy 2 none :: ([.fieldLink RX1 9 "FilledForOne$Comer" "kind" "I", .fieldLink RX1 15 "FilledForOne$Comer" "figure" "I", .fieldLink RX1 22 "FilledForOne$Comer" "minute" "I", .fieldLink RX1 25 "FilledForOne$Comer" "wants" "I", .fieldLink RX1 28 "FilledForOne$Comer" "patience" "I", .fieldLink RX1 31 "FilledForOne$Comer" "state" "I", .fieldLink RX1 34 "FilledForOne$Comer" "servedAt" "I", .methodLink RX1 18 yX1_become, .instanceMethod yX1_become, .selects RX1 yX1_become yX1_become, .initialized RX1, .code yX1_become cX1_become 3 none] ++ wsX10)
def wsX1_waited : List Cond := .code yX1_waited cX1_waited 1 (some .int) :: ([.fieldLink RX1 31 "FilledForOne$Comer" "state" "I", .fieldLink RX1 34 "FilledForOne$Comer" "servedAt" "I", .fieldLink RX1 22 "FilledForOne$Comer" "minute" "I", .fieldLink RX1 28 "FilledForOne$Comer" "patience" "I"] ++ wsX10)
def wsX1_tell : List Cond := .code yX1_tell cX1_tell 2 (some .int) :: ([.fieldLink RX1 9 "FilledForOne$Comer" "kind" "I", .fieldLink RX1 15 "FilledForOne$Comer" "figure" "I", .fieldLink RX1 22 "FilledForOne$Comer" "minute" "I", .fieldLink RX1 25 "FilledForOne$Comer" "wants" "I", .fieldLink RX1 28 "FilledForOne$Comer" "patience" "I", .fieldLink RX1 31 "FilledForOne$Comer" "state" "I", .methodLink RX1 37 yX1_waited, .instanceMethod yX1_waited, .selects RX1 yX1_waited yX1_waited, .initialized RX1, .code yX1_waited cX1_waited 1 (some .int), .fieldLink RX1 34 "FilledForOne$Comer" "servedAt" "I"] ++ wsX10)
def wsX3_init : List Cond := .code yX3_init cX3_init 1 none :: ([.methodLink RX3 3 objectInit, .instanceMethod objectInit, .code objectInit ⟨#[0xb1]⟩ 1 none])
def wsX2_init_r1 : List Cond := [Cond.methodLink RX2 3 objectInit, Cond.instanceMethod objectInit, Cond.code objectInit ⟨#[0xb1]⟩ 1 none, Cond.methodLink RX2 13 ⟨"[I", "clone", "()Ljava/lang/Object;"⟩, Cond.sameMethod "[I" "java/lang/Object" "clone" "()Ljava/lang/Object;", Cond.native ⟨"java/lang/Object", "clone", "()Ljava/lang/Object;"⟩, Cond.instanceMethod ⟨"java/lang/Object", "clone", "()Ljava/lang/Object;"⟩, Cond.selects "[I" ⟨"[I", "clone", "()Ljava/lang/Object;"⟩ ⟨"java/lang/Object", "clone", "()Ljava/lang/Object;"⟩, Cond.classLink RX2 14 "[I", Cond.fieldLink RX2 18 "FilledForOne$Day" "settings" "[I", Cond.classLink RX2 23 RX1, Cond.fieldLink RX2 25 "FilledForOne$Day" "comers" "[LFilledForOne$Comer;", Cond.instantiable RX1 7, Cond.initialized RX1, Cond.classLink RX2 30 RX3, Cond.fieldLink RX2 32 "FilledForOne$Day" "kettles" "[LFilledForOne$Kettle;", Cond.instantiable RX3 5, Cond.initialized RX3, Cond.arrayClass .int, Cond.fieldLink RX2 37 "FilledForOne$Day" "line" "[I", Cond.instanceMethod yX1_init, Cond.code yX1_init cX1_init 1 none, Cond.methodLink RX1 3 objectInit, Cond.instanceMethod yX3_init]
def wsX2_init_r2 : List Cond := [Cond.code yX3_init cX3_init 1 none, Cond.methodLink RX3 3 objectInit]
def wsX2_init : List Cond := .code yX2_init cX2_init 2 none :: ((wsX2_init_r1 ++ wsX2_init_r2) ++ wsX20 ++ wsX10 ++ wsX30)
def wsX3_copy : List Cond := .code yX3_copy cX3_copy 2 none :: ([.fieldLink RX3 9 "FilledForOne$Kettle" "level" "I", .fieldLink RX3 15 "FilledForOne$Kettle" "warmth" "I", .fieldLink RX3 18 "FilledForOne$Kettle" "age" "I", .fieldLink RX3 21 "FilledForOne$Kettle" "busyTill" "I", .fieldLink RX3 24 "FilledForOne$Kettle" "putOnBy" "I"] ++ wsX30)
def wsX2_copy_r1 : List Cond := [Cond.fieldLink RX2 18 "FilledForOne$Day" "settings" "[I", Cond.methodLink RX2 40 arraycopyName, Cond.native arraycopyName, Cond.static arraycopyName, Cond.initialized "java/lang/System", Cond.fieldLink RX2 37 "FilledForOne$Day" "line" "[I", Cond.fieldLink RX2 46 "FilledForOne$Day" "known" "I", Cond.fieldLink RX2 50 "FilledForOne$Day" "lined" "I", Cond.fieldLink RX2 53 "FilledForOne$Day" "minute" "I", Cond.fieldLink RX2 25 "FilledForOne$Day" "comers" "[LFilledForOne$Comer;", Cond.fieldLink RX2 32 "FilledForOne$Day" "kettles" "[LFilledForOne$Kettle;", Cond.methodLink RX2 56 yX1_copy, Cond.instanceMethod yX1_copy, Cond.selects RX1 yX1_copy yX1_copy, Cond.initialized RX1, Cond.code yX1_copy cX1_copy 2 none, Cond.fieldLink RX1 9 "FilledForOne$Comer" "kind" "I", Cond.fieldLink RX1 15 "FilledForOne$Comer" "figure" "I", Cond.fieldLink RX1 22 "FilledForOne$Comer" "minute" "I", Cond.fieldLink RX1 25 "FilledForOne$Comer" "wants" "I", Cond.fieldLink RX1 28 "FilledForOne$Comer" "patience" "I", Cond.fieldLink RX1 31 "FilledForOne$Comer" "state" "I", Cond.fieldLink RX1 34 "FilledForOne$Comer" "servedAt" "I", Cond.methodLink RX1 18 yX1_become]
def wsX2_copy_r2 : List Cond := [Cond.instanceMethod yX1_become, Cond.selects RX1 yX1_become yX1_become, Cond.code yX1_become cX1_become 3 none, Cond.methodLink RX2 60 yX3_copy, Cond.instanceMethod yX3_copy, Cond.selects RX3 yX3_copy yX3_copy, Cond.initialized RX3, Cond.code yX3_copy cX3_copy 2 none, Cond.fieldLink RX3 9 "FilledForOne$Kettle" "level" "I", Cond.fieldLink RX3 15 "FilledForOne$Kettle" "warmth" "I", Cond.fieldLink RX3 18 "FilledForOne$Kettle" "age" "I", Cond.fieldLink RX3 21 "FilledForOne$Kettle" "busyTill" "I", Cond.fieldLink RX3 24 "FilledForOne$Kettle" "putOnBy" "I"]
def wsX2_copy : List Cond := .code yX2_copy cX2_copy 3 none :: ((wsX2_copy_r1 ++ wsX2_copy_r2) ++ wsX20 ++ wsX10 ++ wsX30)
def wsX3_begin : List Cond := .code yX3_begin cX3_begin 1 none :: ([.fieldLink RX3 9 "FilledForOne$Kettle" "level" "I", .fieldLink RX3 15 "FilledForOne$Kettle" "warmth" "I", .fieldLink RX3 18 "FilledForOne$Kettle" "age" "I", .fieldLink RX3 21 "FilledForOne$Kettle" "busyTill" "I"] ++ wsX30)
def wsX2_begin : List Cond := .code yX2_begin cX2_begin 2 none :: ([.fieldLink RX2 53 "FilledForOne$Day" "minute" "I", .fieldLink RX2 50 "FilledForOne$Day" "lined" "I", .fieldLink RX2 46 "FilledForOne$Day" "known" "I", .fieldLink RX2 25 "FilledForOne$Day" "comers" "[LFilledForOne$Comer;", .fieldLink RX2 63 "FilledForOne$Comer" "state" "I", .fieldLink RX2 32 "FilledForOne$Day" "kettles" "[LFilledForOne$Kettle;", .methodLink RX2 66 yX3_begin, .instanceMethod yX3_begin, .selects RX3 yX3_begin yX3_begin, .initialized RX3, .code yX3_begin cX3_begin 1 none, .fieldLink RX3 9 "FilledForOne$Kettle" "level" "I", .fieldLink RX3 15 "FilledForOne$Kettle" "warmth" "I", .fieldLink RX3 18 "FilledForOne$Kettle" "age" "I", .fieldLink RX3 21 "FilledForOne$Kettle" "busyTill" "I"] ++ wsX20 ++ wsX10 ++ wsX30)
def wsX2_hasComer : List Cond := .code yX2_hasComer cX2_hasComer 2 (some .boolean) :: ([.fieldLink RX2 46 "FilledForOne$Day" "known" "I"] ++ wsX20)
def wsX2_kettlesInUse : List Cond := .code yX2_kettlesInUse cX2_kettlesInUse 1 (some .int) :: ([.fieldLink RX2 18 "FilledForOne$Day" "settings" "[I"] ++ wsX20)
def wsX2_highestLevel : List Cond := .code yX2_highestLevel cX2_highestLevel 3 (some .int) :: ([.fieldLink RX2 32 "FilledForOne$Day" "kettles" "[LFilledForOne$Kettle;", .fieldLink RX2 134 "FilledForOne$Kettle" "level" "I", .methodLink RX2 183 Lib.Math.max.name, .static Lib.Math.max.name, .initialized "java/lang/Math", .code Lib.Math.max.name Lib.Math.max.code 2 (some .int), .methodLink RX2 98 yX2_kettlesInUse, .instanceMethod yX2_kettlesInUse, .selects RX2 yX2_kettlesInUse yX2_kettlesInUse, .initialized RX2, .code yX2_kettlesInUse cX2_kettlesInUse 1 (some .int), .fieldLink RX2 18 "FilledForOne$Day" "settings" "[I"] ++ wsX20 ++ wsX30)
def wsX2_settingRefusal : List Cond := .code yX2_settingRefusal cX2_settingRefusal 5 (some .int) :: ([.fieldLink RX2 18 "FilledForOne$Day" "settings" "[I", .fieldLink RX2 53 "FilledForOne$Day" "minute" "I", .methodLink RX2 75 yX2_highestLevel, .instanceMethod yX2_highestLevel, .selects RX2 yX2_highestLevel yX2_highestLevel, .initialized RX2, .code yX2_highestLevel cX2_highestLevel 3 (some .int), .fieldLink RX2 32 "FilledForOne$Day" "kettles" "[LFilledForOne$Kettle;", .fieldLink RX2 134 "FilledForOne$Kettle" "level" "I", .methodLink RX2 183 Lib.Math.max.name, .static Lib.Math.max.name, .initialized "java/lang/Math", .code Lib.Math.max.name Lib.Math.max.code 2 (some .int), .methodLink RX2 98 yX2_kettlesInUse, .instanceMethod yX2_kettlesInUse, .selects RX2 yX2_kettlesInUse yX2_kettlesInUse, .code yX2_kettlesInUse cX2_kettlesInUse 1 (some .int)] ++ wsX20 ++ wsX30)
def wsX2_change : List Cond := .code yX2_change cX2_change 4 (some .int) :: ([.fieldLink RX2 18 "FilledForOne$Day" "settings" "[I"] ++ wsX20)
def wsX2_add : List Cond := .code yX2_add cX2_add 8 (some .boolean) :: ([.fieldLink RX2 46 "FilledForOne$Day" "known" "I", .fieldLink RX2 25 "FilledForOne$Day" "comers" "[LFilledForOne$Comer;", .fieldLink RX2 53 "FilledForOne$Day" "minute" "I", .fieldLink RX2 83 "FilledForOne$Comer" "minute" "I", .fieldLink RX2 84 "FilledForOne$Comer" "wants" "I", .fieldLink RX2 87 "FilledForOne$Comer" "patience" "I", .fieldLink RX2 63 "FilledForOne$Comer" "state" "I", .methodLink RX2 79 yX1_become, .instanceMethod yX1_become, .selects RX1 yX1_become yX1_become, .initialized RX1, .code yX1_become cX1_become 3 none, .fieldLink RX1 9 "FilledForOne$Comer" "kind" "I", .fieldLink RX1 15 "FilledForOne$Comer" "figure" "I"] ++ wsX20 ++ wsX10)
def wsX2_comersWith : List Cond := .code yX2_comersWith cX2_comersWith 4 (some .int) :: ([.fieldLink RX2 46 "FilledForOne$Day" "known" "I", .fieldLink RX2 25 "FilledForOne$Day" "comers" "[LFilledForOne$Comer;", .fieldLink RX2 63 "FilledForOne$Comer" "state" "I"] ++ wsX20 ++ wsX10)
def wsX3_isFree : List Cond := .code yX3_isFree cX3_isFree 2 (some .boolean) :: ([.fieldLink RX3 21 "FilledForOne$Kettle" "busyTill" "I"] ++ wsX30)
def wsX2_allFree : List Cond := .code yX2_allFree cX2_allFree 2 (some .boolean) :: ([.fieldLink RX2 32 "FilledForOne$Day" "kettles" "[LFilledForOne$Kettle;", .fieldLink RX2 53 "FilledForOne$Day" "minute" "I", .methodLink RX2 98 yX2_kettlesInUse, .instanceMethod yX2_kettlesInUse, .selects RX2 yX2_kettlesInUse yX2_kettlesInUse, .initialized RX2, .code yX2_kettlesInUse cX2_kettlesInUse 1 (some .int), .fieldLink RX2 18 "FilledForOne$Day" "settings" "[I", .methodLink RX2 101 yX3_isFree, .instanceMethod yX3_isFree, .selects RX3 yX3_isFree yX3_isFree, .initialized RX3, .code yX3_isFree cX3_isFree 2 (some .boolean), .fieldLink RX3 21 "FilledForOne$Kettle" "busyTill" "I"] ++ wsX20 ++ wsX30)
def wsX2_isOver_r1 : List Cond := [Cond.fieldLink RX2 53 "FilledForOne$Day" "minute" "I", Cond.fieldLink RX2 50 "FilledForOne$Day" "lined" "I", Cond.methodLink RX2 90 yX2_comersWith, Cond.instanceMethod yX2_comersWith, Cond.selects RX2 yX2_comersWith yX2_comersWith, Cond.initialized RX2, Cond.code yX2_comersWith cX2_comersWith 4 (some .int), Cond.fieldLink RX2 46 "FilledForOne$Day" "known" "I", Cond.fieldLink RX2 25 "FilledForOne$Day" "comers" "[LFilledForOne$Comer;", Cond.fieldLink RX2 63 "FilledForOne$Comer" "state" "I", Cond.methodLink RX2 94 yX2_allFree, Cond.instanceMethod yX2_allFree, Cond.selects RX2 yX2_allFree yX2_allFree, Cond.code yX2_allFree cX2_allFree 2 (some .boolean), Cond.fieldLink RX2 32 "FilledForOne$Day" "kettles" "[LFilledForOne$Kettle;", Cond.methodLink RX2 98 yX2_kettlesInUse, Cond.instanceMethod yX2_kettlesInUse, Cond.selects RX2 yX2_kettlesInUse yX2_kettlesInUse, Cond.code yX2_kettlesInUse cX2_kettlesInUse 1 (some .int), Cond.fieldLink RX2 18 "FilledForOne$Day" "settings" "[I", Cond.methodLink RX2 101 yX3_isFree, Cond.instanceMethod yX3_isFree, Cond.selects RX3 yX3_isFree yX3_isFree, Cond.initialized RX3]
def wsX2_isOver_r2 : List Cond := [Cond.code yX3_isFree cX3_isFree 2 (some .boolean), Cond.fieldLink RX3 21 "FilledForOne$Kettle" "busyTill" "I"]
def wsX2_isOver : List Cond := .code yX2_isOver cX2_isOver 1 (some .boolean) :: ((wsX2_isOver_r1 ++ wsX2_isOver_r2) ++ wsX20 ++ wsX10 ++ wsX30)
def wsX2_lineUp : List Cond := .code yX2_lineUp cX2_lineUp 2 none :: ([.fieldLink RX2 46 "FilledForOne$Day" "known" "I", .fieldLink RX2 25 "FilledForOne$Day" "comers" "[LFilledForOne$Comer;", .fieldLink RX2 63 "FilledForOne$Comer" "state" "I", .fieldLink RX2 83 "FilledForOne$Comer" "minute" "I", .fieldLink RX2 53 "FilledForOne$Day" "minute" "I", .fieldLink RX2 50 "FilledForOne$Day" "lined" "I", .fieldLink RX2 37 "FilledForOne$Day" "line" "[I"] ++ wsX20 ++ wsX10)
def wsX2_closeUp : List Cond := .code yX2_closeUp cX2_closeUp 3 none :: ([.fieldLink RX2 50 "FilledForOne$Day" "lined" "I", .fieldLink RX2 25 "FilledForOne$Day" "comers" "[LFilledForOne$Comer;", .fieldLink RX2 37 "FilledForOne$Day" "line" "[I", .fieldLink RX2 63 "FilledForOne$Comer" "state" "I"] ++ wsX20 ++ wsX10)
def wsX2_loseImpatient : List Cond := .code yX2_loseImpatient cX2_loseImpatient 3 none :: ([.fieldLink RX2 50 "FilledForOne$Day" "lined" "I", .fieldLink RX2 25 "FilledForOne$Day" "comers" "[LFilledForOne$Comer;", .fieldLink RX2 37 "FilledForOne$Day" "line" "[I", .fieldLink RX2 53 "FilledForOne$Day" "minute" "I", .fieldLink RX2 83 "FilledForOne$Comer" "minute" "I", .fieldLink RX2 87 "FilledForOne$Comer" "patience" "I", .fieldLink RX2 63 "FilledForOne$Comer" "state" "I", .methodLink RX2 124 yX2_closeUp, .instanceMethod yX2_closeUp, .selects RX2 yX2_closeUp yX2_closeUp, .initialized RX2, .code yX2_closeUp cX2_closeUp 3 none] ++ wsX20 ++ wsX10)
def wsX3_isReady : List Cond := .code yX3_isReady cX3_isReady 3 (some .boolean) :: ([.fieldLink RX3 21 "FilledForOne$Kettle" "busyTill" "I", .fieldLink RX3 15 "FilledForOne$Kettle" "warmth" "I", .fieldLink RX3 9 "FilledForOne$Kettle" "level" "I"] ++ wsX30)
def wsX2_firstReady : List Cond := .code yX2_firstReady cX2_firstReady 3 (some (.object "FilledForOne$Kettle")) :: ([.fieldLink RX2 32 "FilledForOne$Day" "kettles" "[LFilledForOne$Kettle;", .fieldLink RX2 53 "FilledForOne$Day" "minute" "I", .methodLink RX2 98 yX2_kettlesInUse, .instanceMethod yX2_kettlesInUse, .selects RX2 yX2_kettlesInUse yX2_kettlesInUse, .initialized RX2, .code yX2_kettlesInUse cX2_kettlesInUse 1 (some .int), .fieldLink RX2 18 "FilledForOne$Day" "settings" "[I", .methodLink RX2 164 yX3_isReady, .instanceMethod yX3_isReady, .selects RX3 yX3_isReady yX3_isReady, .initialized RX3, .code yX3_isReady cX3_isReady 3 (some .boolean), .fieldLink RX3 21 "FilledForOne$Kettle" "busyTill" "I", .fieldLink RX3 15 "FilledForOne$Kettle" "warmth" "I", .fieldLink RX3 9 "FilledForOne$Kettle" "level" "I"] ++ wsX20 ++ wsX30)
def wsX2_serve_r1 : List Cond := [Cond.fieldLink RX2 25 "FilledForOne$Day" "comers" "[LFilledForOne$Comer;", Cond.fieldLink RX2 84 "FilledForOne$Comer" "wants" "I", Cond.fieldLink RX2 134 "FilledForOne$Kettle" "level" "I", Cond.fieldLink RX2 63 "FilledForOne$Comer" "state" "I", Cond.fieldLink RX2 53 "FilledForOne$Day" "minute" "I", Cond.fieldLink RX2 137 "FilledForOne$Comer" "servedAt" "I", Cond.methodLink RX2 130 yX2_firstReady, Cond.instanceMethod yX2_firstReady, Cond.selects RX2 yX2_firstReady yX2_firstReady, Cond.initialized RX2, Cond.code yX2_firstReady cX2_firstReady 3 (some (.object "FilledForOne$Kettle")), Cond.fieldLink RX2 32 "FilledForOne$Day" "kettles" "[LFilledForOne$Kettle;", Cond.methodLink RX2 98 yX2_kettlesInUse, Cond.instanceMethod yX2_kettlesInUse, Cond.selects RX2 yX2_kettlesInUse yX2_kettlesInUse, Cond.code yX2_kettlesInUse cX2_kettlesInUse 1 (some .int), Cond.fieldLink RX2 18 "FilledForOne$Day" "settings" "[I", Cond.methodLink RX2 164 yX3_isReady, Cond.instanceMethod yX3_isReady, Cond.selects RX3 yX3_isReady yX3_isReady, Cond.initialized RX3, Cond.code yX3_isReady cX3_isReady 3 (some .boolean), Cond.fieldLink RX3 21 "FilledForOne$Kettle" "busyTill" "I", Cond.fieldLink RX3 15 "FilledForOne$Kettle" "warmth" "I"]
def wsX2_serve_r2 : List Cond := [Cond.fieldLink RX3 9 "FilledForOne$Kettle" "level" "I"]
def wsX2_serve : List Cond := .code yX2_serve cX2_serve 4 (some .boolean) :: ((wsX2_serve_r1 ++ wsX2_serve_r2) ++ wsX20 ++ wsX10 ++ wsX30)
def wsX2_firstFree : List Cond := .code yX2_firstFree cX2_firstFree 2 (some (.object "FilledForOne$Kettle")) :: ([.fieldLink RX2 32 "FilledForOne$Day" "kettles" "[LFilledForOne$Kettle;", .fieldLink RX2 53 "FilledForOne$Day" "minute" "I", .methodLink RX2 98 yX2_kettlesInUse, .instanceMethod yX2_kettlesInUse, .selects RX2 yX2_kettlesInUse yX2_kettlesInUse, .initialized RX2, .code yX2_kettlesInUse cX2_kettlesInUse 1 (some .int), .fieldLink RX2 18 "FilledForOne$Day" "settings" "[I", .methodLink RX2 101 yX3_isFree, .instanceMethod yX3_isFree, .selects RX3 yX3_isFree yX3_isFree, .initialized RX3, .code yX3_isFree cX3_isFree 2 (some .boolean), .fieldLink RX3 21 "FilledForOne$Kettle" "busyTill" "I"] ++ wsX20 ++ wsX30)
def wsX2_waitsForOwn : List Cond := .code yX2_waitsForOwn cX2_waitsForOwn 3 (some .boolean) :: ([.fieldLink RX2 32 "FilledForOne$Day" "kettles" "[LFilledForOne$Kettle;", .fieldLink RX2 168 "FilledForOne$Kettle" "putOnBy" "I", .fieldLink RX2 53 "FilledForOne$Day" "minute" "I", .methodLink RX2 98 yX2_kettlesInUse, .instanceMethod yX2_kettlesInUse, .selects RX2 yX2_kettlesInUse yX2_kettlesInUse, .initialized RX2, .code yX2_kettlesInUse cX2_kettlesInUse 1 (some .int), .fieldLink RX2 18 "FilledForOne$Day" "settings" "[I", .methodLink RX2 101 yX3_isFree, .instanceMethod yX3_isFree, .selects RX3 yX3_isFree yX3_isFree, .initialized RX3, .code yX3_isFree cX3_isFree 2 (some .boolean), .fieldLink RX3 21 "FilledForOne$Kettle" "busyTill" "I"] ++ wsX20 ++ wsX30)
def wsX2_wantsInLine : List Cond := .code yX2_wantsInLine cX2_wantsInLine 3 (some .int) :: ([.fieldLink RX2 46 "FilledForOne$Day" "known" "I", .fieldLink RX2 25 "FilledForOne$Day" "comers" "[LFilledForOne$Comer;", .fieldLink RX2 63 "FilledForOne$Comer" "state" "I", .fieldLink RX2 84 "FilledForOne$Comer" "wants" "I"] ++ wsX20 ++ wsX10)
def wsX2_wantsToCome : List Cond := .code yX2_wantsToCome cX2_wantsToCome 4 (some .int) :: ([.fieldLink RX2 46 "FilledForOne$Day" "known" "I", .fieldLink RX2 25 "FilledForOne$Day" "comers" "[LFilledForOne$Comer;", .fieldLink RX2 63 "FilledForOne$Comer" "state" "I", .fieldLink RX2 83 "FilledForOne$Comer" "minute" "I", .fieldLink RX2 84 "FilledForOne$Comer" "wants" "I"] ++ wsX20 ++ wsX10)
def wsX2_upTo : List Cond := .code yX2_upTo cX2_upTo 4 (some .int) :: ([.fieldLink RX2 84 "FilledForOne$Comer" "wants" "I", .fieldLink RX2 18 "FilledForOne$Day" "settings" "[I", .fieldLink RX2 53 "FilledForOne$Day" "minute" "I", .fieldLink RX2 177 "FilledForOne$Comer" "figure" "I", .methodLink RX2 183 Lib.Math.max.name, .static Lib.Math.max.name, .initialized "java/lang/Math", .code Lib.Math.max.name Lib.Math.max.code 2 (some .int), .methodLink RX2 189 Lib.Math.min.name, .static Lib.Math.min.name, .code Lib.Math.min.name Lib.Math.min.code 2 (some .int), .methodLink RX2 174 yX2_wantsInLine, .instanceMethod yX2_wantsInLine, .selects RX2 yX2_wantsInLine yX2_wantsInLine, .initialized RX2, .code yX2_wantsInLine cX2_wantsInLine 3 (some .int), .fieldLink RX2 46 "FilledForOne$Day" "known" "I", .fieldLink RX2 25 "FilledForOne$Day" "comers" "[LFilledForOne$Comer;", .fieldLink RX2 63 "FilledForOne$Comer" "state" "I", .methodLink RX2 180 yX2_wantsToCome, .instanceMethod yX2_wantsToCome, .selects RX2 yX2_wantsToCome yX2_wantsToCome, .code yX2_wantsToCome cX2_wantsToCome 4 (some .int), .fieldLink RX2 83 "FilledForOne$Comer" "minute" "I"] ++ wsX10 ++ wsX20)
def wsX3_fill : List Cond := .code yX3_fill cX3_fill 2 none :: ([.fieldLink RX3 9 "FilledForOne$Kettle" "level" "I", .fieldLink RX3 15 "FilledForOne$Kettle" "warmth" "I"] ++ wsX30)
def wsX3_putOn : List Cond := .code yX3_putOn cX3_putOn 4 none :: ([.fieldLink RX3 9 "FilledForOne$Kettle" "level" "I", .fieldLink RX3 15 "FilledForOne$Kettle" "warmth" "I", .fieldLink RX3 21 "FilledForOne$Kettle" "busyTill" "I", .fieldLink RX3 18 "FilledForOne$Kettle" "age" "I", .fieldLink RX3 24 "FilledForOne$Kettle" "putOnBy" "I", .static yX6_heatingMinutes, .initialized RX6, .code yX6_heatingMinutes cX6_heatingMinutes 4 (some .int)] ++ wsX30)
def wsX2_boil_r1 : List Cond := [Cond.fieldLink RX2 25 "FilledForOne$Day" "comers" "[LFilledForOne$Comer;", Cond.fieldLink RX2 147 "FilledForOne$Comer" "kind" "I", Cond.fieldLink RX2 53 "FilledForOne$Day" "minute" "I", Cond.fieldLink RX2 134 "FilledForOne$Kettle" "level" "I", Cond.fieldLink RX2 18 "FilledForOne$Day" "settings" "[I", Cond.fieldLink RX2 161 "FilledForOne$Day" "boils" "I", Cond.methodLink RX2 140 yX2_firstFree, Cond.instanceMethod yX2_firstFree, Cond.selects RX2 yX2_firstFree yX2_firstFree, Cond.initialized RX2, Cond.code yX2_firstFree cX2_firstFree 2 (some (.object "FilledForOne$Kettle")), Cond.fieldLink RX2 32 "FilledForOne$Day" "kettles" "[LFilledForOne$Kettle;", Cond.methodLink RX2 98 yX2_kettlesInUse, Cond.instanceMethod yX2_kettlesInUse, Cond.selects RX2 yX2_kettlesInUse yX2_kettlesInUse, Cond.code yX2_kettlesInUse cX2_kettlesInUse 1 (some .int), Cond.methodLink RX2 101 yX3_isFree, Cond.instanceMethod yX3_isFree, Cond.selects RX3 yX3_isFree yX3_isFree, Cond.initialized RX3, Cond.code yX3_isFree cX3_isFree 2 (some .boolean), Cond.fieldLink RX3 21 "FilledForOne$Kettle" "busyTill" "I", Cond.methodLink RX2 144 yX2_waitsForOwn, Cond.instanceMethod yX2_waitsForOwn]
def wsX2_boil_r2 : List Cond := [Cond.selects RX2 yX2_waitsForOwn yX2_waitsForOwn, Cond.code yX2_waitsForOwn cX2_waitsForOwn 3 (some .boolean), Cond.fieldLink RX2 168 "FilledForOne$Kettle" "putOnBy" "I", Cond.methodLink RX2 150 yX2_upTo, Cond.instanceMethod yX2_upTo, Cond.selects RX2 yX2_upTo yX2_upTo, Cond.code yX2_upTo cX2_upTo 4 (some .int), Cond.fieldLink RX2 84 "FilledForOne$Comer" "wants" "I", Cond.fieldLink RX2 177 "FilledForOne$Comer" "figure" "I", Cond.methodLink RX2 183 Lib.Math.max.name, Cond.static Lib.Math.max.name, Cond.initialized "java/lang/Math", Cond.code Lib.Math.max.name Lib.Math.max.code 2 (some .int), Cond.methodLink RX2 189 Lib.Math.min.name, Cond.static Lib.Math.min.name, Cond.code Lib.Math.min.name Lib.Math.min.code 2 (some .int), Cond.methodLink RX2 174 yX2_wantsInLine, Cond.instanceMethod yX2_wantsInLine, Cond.selects RX2 yX2_wantsInLine yX2_wantsInLine, Cond.code yX2_wantsInLine cX2_wantsInLine 3 (some .int), Cond.fieldLink RX2 46 "FilledForOne$Day" "known" "I", Cond.fieldLink RX2 63 "FilledForOne$Comer" "state" "I", Cond.methodLink RX2 180 yX2_wantsToCome, Cond.instanceMethod yX2_wantsToCome]
def wsX2_boil_r3 : List Cond := [Cond.selects RX2 yX2_wantsToCome yX2_wantsToCome, Cond.code yX2_wantsToCome cX2_wantsToCome 4 (some .int), Cond.fieldLink RX2 83 "FilledForOne$Comer" "minute" "I", Cond.methodLink RX2 154 yX3_fill, Cond.instanceMethod yX3_fill, Cond.selects RX3 yX3_fill yX3_fill, Cond.code yX3_fill cX3_fill 2 none, Cond.fieldLink RX3 9 "FilledForOne$Kettle" "level" "I", Cond.fieldLink RX3 15 "FilledForOne$Kettle" "warmth" "I", Cond.methodLink RX2 157 yX3_putOn, Cond.instanceMethod yX3_putOn, Cond.selects RX3 yX3_putOn yX3_putOn, Cond.code yX3_putOn cX3_putOn 4 none, Cond.fieldLink RX3 18 "FilledForOne$Kettle" "age" "I", Cond.fieldLink RX3 24 "FilledForOne$Kettle" "putOnBy" "I", Cond.static yX6_heatingMinutes, Cond.initialized RX6, Cond.code yX6_heatingMinutes cX6_heatingMinutes 4 (some .int)]
def wsX2_boil : List Cond := .code yX2_boil cX2_boil 5 none :: ((wsX2_boil_r1 ++ (wsX2_boil_r2 ++ wsX2_boil_r3)) ++ wsX20 ++ wsX10 ++ wsX30)
def wsX3_cool : List Cond := .code yX3_cool cX3_cool 2 none :: ([.fieldLink RX3 18 "FilledForOne$Kettle" "age" "I", .fieldLink RX3 15 "FilledForOne$Kettle" "warmth" "I", .methodLink RX3 31 Lib.Math.max.name, .static Lib.Math.max.name, .initialized "java/lang/Math", .code Lib.Math.max.name Lib.Math.max.code 2 (some .int)] ++ wsX30)
def wsX2_coolDown_r1 : List Cond := [Cond.fieldLink RX2 32 "FilledForOne$Day" "kettles" "[LFilledForOne$Kettle;", Cond.fieldLink RX2 134 "FilledForOne$Kettle" "level" "I", Cond.fieldLink RX2 53 "FilledForOne$Day" "minute" "I", Cond.fieldLink RX2 18 "FilledForOne$Day" "settings" "[I", Cond.methodLink RX2 98 yX2_kettlesInUse, Cond.instanceMethod yX2_kettlesInUse, Cond.selects RX2 yX2_kettlesInUse yX2_kettlesInUse, Cond.initialized RX2, Cond.code yX2_kettlesInUse cX2_kettlesInUse 1 (some .int), Cond.methodLink RX2 101 yX3_isFree, Cond.instanceMethod yX3_isFree, Cond.selects RX3 yX3_isFree yX3_isFree, Cond.initialized RX3, Cond.code yX3_isFree cX3_isFree 2 (some .boolean), Cond.fieldLink RX3 21 "FilledForOne$Kettle" "busyTill" "I", Cond.methodLink RX2 171 yX3_cool, Cond.instanceMethod yX3_cool, Cond.selects RX3 yX3_cool yX3_cool, Cond.code yX3_cool cX3_cool 2 none, Cond.fieldLink RX3 18 "FilledForOne$Kettle" "age" "I", Cond.fieldLink RX3 15 "FilledForOne$Kettle" "warmth" "I", Cond.methodLink RX3 31 Lib.Math.max.name, Cond.static Lib.Math.max.name, Cond.initialized "java/lang/Math"]
def wsX2_coolDown_r2 : List Cond := [Cond.code Lib.Math.max.name Lib.Math.max.code 2 (some .int)]
def wsX2_coolDown : List Cond := .code yX2_coolDown cX2_coolDown 2 none :: ((wsX2_coolDown_r1 ++ wsX2_coolDown_r2) ++ wsX20 ++ wsX30)
def wsX2_passMinute_r1 : List Cond := [Cond.fieldLink RX2 50 "FilledForOne$Day" "lined" "I", Cond.fieldLink RX2 37 "FilledForOne$Day" "line" "[I", Cond.fieldLink RX2 53 "FilledForOne$Day" "minute" "I", Cond.methodLink RX2 111 yX2_lineUp, Cond.instanceMethod yX2_lineUp, Cond.selects RX2 yX2_lineUp yX2_lineUp, Cond.initialized RX2, Cond.code yX2_lineUp cX2_lineUp 2 none, Cond.fieldLink RX2 46 "FilledForOne$Day" "known" "I", Cond.fieldLink RX2 25 "FilledForOne$Day" "comers" "[LFilledForOne$Comer;", Cond.fieldLink RX2 63 "FilledForOne$Comer" "state" "I", Cond.fieldLink RX2 83 "FilledForOne$Comer" "minute" "I", Cond.methodLink RX2 114 yX2_loseImpatient, Cond.instanceMethod yX2_loseImpatient, Cond.selects RX2 yX2_loseImpatient yX2_loseImpatient, Cond.code yX2_loseImpatient cX2_loseImpatient 3 none, Cond.fieldLink RX2 87 "FilledForOne$Comer" "patience" "I", Cond.methodLink RX2 124 yX2_closeUp, Cond.instanceMethod yX2_closeUp, Cond.selects RX2 yX2_closeUp yX2_closeUp, Cond.code yX2_closeUp cX2_closeUp 3 none, Cond.methodLink RX2 117 yX2_serve, Cond.instanceMethod yX2_serve, Cond.selects RX2 yX2_serve yX2_serve]
def wsX2_passMinute_r2 : List Cond := [Cond.code yX2_serve cX2_serve 4 (some .boolean), Cond.fieldLink RX2 84 "FilledForOne$Comer" "wants" "I", Cond.fieldLink RX2 134 "FilledForOne$Kettle" "level" "I", Cond.fieldLink RX2 137 "FilledForOne$Comer" "servedAt" "I", Cond.methodLink RX2 130 yX2_firstReady, Cond.instanceMethod yX2_firstReady, Cond.selects RX2 yX2_firstReady yX2_firstReady, Cond.code yX2_firstReady cX2_firstReady 3 (some (.object "FilledForOne$Kettle")), Cond.fieldLink RX2 32 "FilledForOne$Day" "kettles" "[LFilledForOne$Kettle;", Cond.methodLink RX2 98 yX2_kettlesInUse, Cond.instanceMethod yX2_kettlesInUse, Cond.selects RX2 yX2_kettlesInUse yX2_kettlesInUse, Cond.code yX2_kettlesInUse cX2_kettlesInUse 1 (some .int), Cond.fieldLink RX2 18 "FilledForOne$Day" "settings" "[I", Cond.methodLink RX2 164 yX3_isReady, Cond.instanceMethod yX3_isReady, Cond.selects RX3 yX3_isReady yX3_isReady, Cond.initialized RX3, Cond.code yX3_isReady cX3_isReady 3 (some .boolean), Cond.fieldLink RX3 21 "FilledForOne$Kettle" "busyTill" "I", Cond.fieldLink RX3 15 "FilledForOne$Kettle" "warmth" "I", Cond.fieldLink RX3 9 "FilledForOne$Kettle" "level" "I", Cond.methodLink RX2 120 yX2_boil, Cond.instanceMethod yX2_boil]
def wsX2_passMinute_r3 : List Cond := [Cond.selects RX2 yX2_boil yX2_boil, Cond.code yX2_boil cX2_boil 5 none, Cond.fieldLink RX2 147 "FilledForOne$Comer" "kind" "I", Cond.fieldLink RX2 161 "FilledForOne$Day" "boils" "I", Cond.methodLink RX2 140 yX2_firstFree, Cond.instanceMethod yX2_firstFree, Cond.selects RX2 yX2_firstFree yX2_firstFree, Cond.code yX2_firstFree cX2_firstFree 2 (some (.object "FilledForOne$Kettle")), Cond.methodLink RX2 101 yX3_isFree, Cond.instanceMethod yX3_isFree, Cond.selects RX3 yX3_isFree yX3_isFree, Cond.code yX3_isFree cX3_isFree 2 (some .boolean), Cond.methodLink RX2 144 yX2_waitsForOwn, Cond.instanceMethod yX2_waitsForOwn, Cond.selects RX2 yX2_waitsForOwn yX2_waitsForOwn, Cond.code yX2_waitsForOwn cX2_waitsForOwn 3 (some .boolean), Cond.fieldLink RX2 168 "FilledForOne$Kettle" "putOnBy" "I", Cond.methodLink RX2 150 yX2_upTo, Cond.instanceMethod yX2_upTo, Cond.selects RX2 yX2_upTo yX2_upTo, Cond.code yX2_upTo cX2_upTo 4 (some .int), Cond.fieldLink RX2 177 "FilledForOne$Comer" "figure" "I", Cond.methodLink RX2 183 Lib.Math.max.name, Cond.static Lib.Math.max.name]
def wsX2_passMinute_r4 : List Cond := [Cond.initialized "java/lang/Math", Cond.code Lib.Math.max.name Lib.Math.max.code 2 (some .int), Cond.methodLink RX2 189 Lib.Math.min.name, Cond.static Lib.Math.min.name, Cond.code Lib.Math.min.name Lib.Math.min.code 2 (some .int), Cond.methodLink RX2 174 yX2_wantsInLine, Cond.instanceMethod yX2_wantsInLine, Cond.selects RX2 yX2_wantsInLine yX2_wantsInLine, Cond.code yX2_wantsInLine cX2_wantsInLine 3 (some .int), Cond.methodLink RX2 180 yX2_wantsToCome, Cond.instanceMethod yX2_wantsToCome, Cond.selects RX2 yX2_wantsToCome yX2_wantsToCome, Cond.code yX2_wantsToCome cX2_wantsToCome 4 (some .int), Cond.methodLink RX2 154 yX3_fill, Cond.instanceMethod yX3_fill, Cond.selects RX3 yX3_fill yX3_fill, Cond.code yX3_fill cX3_fill 2 none, Cond.methodLink RX2 157 yX3_putOn, Cond.instanceMethod yX3_putOn, Cond.selects RX3 yX3_putOn yX3_putOn, Cond.code yX3_putOn cX3_putOn 4 none, Cond.fieldLink RX3 18 "FilledForOne$Kettle" "age" "I", Cond.fieldLink RX3 24 "FilledForOne$Kettle" "putOnBy" "I", Cond.static yX6_heatingMinutes]
def wsX2_passMinute_r5 : List Cond := [Cond.initialized RX6, Cond.code yX6_heatingMinutes cX6_heatingMinutes 4 (some .int), Cond.methodLink RX2 127 yX2_coolDown, Cond.instanceMethod yX2_coolDown, Cond.selects RX2 yX2_coolDown yX2_coolDown, Cond.code yX2_coolDown cX2_coolDown 2 none, Cond.methodLink RX2 171 yX3_cool, Cond.instanceMethod yX3_cool, Cond.selects RX3 yX3_cool yX3_cool, Cond.code yX3_cool cX3_cool 2 none, Cond.methodLink RX3 31 Lib.Math.max.name]
def wsX2_passMinute : List Cond := .code yX2_passMinute cX2_passMinute 2 none :: ((wsX2_passMinute_r1 ++ (wsX2_passMinute_r2 ++ (wsX2_passMinute_r3 ++ (wsX2_passMinute_r4 ++ wsX2_passMinute_r5)))) ++ wsX20 ++ wsX10 ++ wsX30)
def wsX2_pass_r1 : List Cond := [Cond.methodLink RX2 105 yX2_isOver, Cond.instanceMethod yX2_isOver, Cond.selects RX2 yX2_isOver yX2_isOver, Cond.initialized RX2, Cond.code yX2_isOver cX2_isOver 1 (some .boolean), Cond.fieldLink RX2 53 "FilledForOne$Day" "minute" "I", Cond.fieldLink RX2 50 "FilledForOne$Day" "lined" "I", Cond.methodLink RX2 90 yX2_comersWith, Cond.instanceMethod yX2_comersWith, Cond.selects RX2 yX2_comersWith yX2_comersWith, Cond.code yX2_comersWith cX2_comersWith 4 (some .int), Cond.fieldLink RX2 46 "FilledForOne$Day" "known" "I", Cond.fieldLink RX2 25 "FilledForOne$Day" "comers" "[LFilledForOne$Comer;", Cond.fieldLink RX2 63 "FilledForOne$Comer" "state" "I", Cond.methodLink RX2 94 yX2_allFree, Cond.instanceMethod yX2_allFree, Cond.selects RX2 yX2_allFree yX2_allFree, Cond.code yX2_allFree cX2_allFree 2 (some .boolean), Cond.fieldLink RX2 32 "FilledForOne$Day" "kettles" "[LFilledForOne$Kettle;", Cond.methodLink RX2 98 yX2_kettlesInUse, Cond.instanceMethod yX2_kettlesInUse, Cond.selects RX2 yX2_kettlesInUse yX2_kettlesInUse, Cond.code yX2_kettlesInUse cX2_kettlesInUse 1 (some .int), Cond.fieldLink RX2 18 "FilledForOne$Day" "settings" "[I"]
def wsX2_pass_r2 : List Cond := [Cond.methodLink RX2 101 yX3_isFree, Cond.instanceMethod yX3_isFree, Cond.selects RX3 yX3_isFree yX3_isFree, Cond.initialized RX3, Cond.code yX3_isFree cX3_isFree 2 (some .boolean), Cond.fieldLink RX3 21 "FilledForOne$Kettle" "busyTill" "I", Cond.methodLink RX2 108 yX2_passMinute, Cond.instanceMethod yX2_passMinute, Cond.selects RX2 yX2_passMinute yX2_passMinute, Cond.code yX2_passMinute cX2_passMinute 2 none, Cond.fieldLink RX2 37 "FilledForOne$Day" "line" "[I", Cond.methodLink RX2 111 yX2_lineUp, Cond.instanceMethod yX2_lineUp, Cond.selects RX2 yX2_lineUp yX2_lineUp, Cond.code yX2_lineUp cX2_lineUp 2 none, Cond.fieldLink RX2 83 "FilledForOne$Comer" "minute" "I", Cond.methodLink RX2 114 yX2_loseImpatient, Cond.instanceMethod yX2_loseImpatient, Cond.selects RX2 yX2_loseImpatient yX2_loseImpatient, Cond.code yX2_loseImpatient cX2_loseImpatient 3 none, Cond.fieldLink RX2 87 "FilledForOne$Comer" "patience" "I", Cond.methodLink RX2 124 yX2_closeUp, Cond.instanceMethod yX2_closeUp, Cond.selects RX2 yX2_closeUp yX2_closeUp]
def wsX2_pass_r3 : List Cond := [Cond.code yX2_closeUp cX2_closeUp 3 none, Cond.methodLink RX2 117 yX2_serve, Cond.instanceMethod yX2_serve, Cond.selects RX2 yX2_serve yX2_serve, Cond.code yX2_serve cX2_serve 4 (some .boolean), Cond.fieldLink RX2 84 "FilledForOne$Comer" "wants" "I", Cond.fieldLink RX2 134 "FilledForOne$Kettle" "level" "I", Cond.fieldLink RX2 137 "FilledForOne$Comer" "servedAt" "I", Cond.methodLink RX2 130 yX2_firstReady, Cond.instanceMethod yX2_firstReady, Cond.selects RX2 yX2_firstReady yX2_firstReady, Cond.code yX2_firstReady cX2_firstReady 3 (some (.object "FilledForOne$Kettle")), Cond.methodLink RX2 164 yX3_isReady, Cond.instanceMethod yX3_isReady, Cond.selects RX3 yX3_isReady yX3_isReady, Cond.code yX3_isReady cX3_isReady 3 (some .boolean), Cond.fieldLink RX3 15 "FilledForOne$Kettle" "warmth" "I", Cond.fieldLink RX3 9 "FilledForOne$Kettle" "level" "I", Cond.methodLink RX2 120 yX2_boil, Cond.instanceMethod yX2_boil, Cond.selects RX2 yX2_boil yX2_boil, Cond.code yX2_boil cX2_boil 5 none, Cond.fieldLink RX2 147 "FilledForOne$Comer" "kind" "I", Cond.fieldLink RX2 161 "FilledForOne$Day" "boils" "I"]
def wsX2_pass_r4 : List Cond := [Cond.methodLink RX2 140 yX2_firstFree, Cond.instanceMethod yX2_firstFree, Cond.selects RX2 yX2_firstFree yX2_firstFree, Cond.code yX2_firstFree cX2_firstFree 2 (some (.object "FilledForOne$Kettle")), Cond.methodLink RX2 144 yX2_waitsForOwn, Cond.instanceMethod yX2_waitsForOwn, Cond.selects RX2 yX2_waitsForOwn yX2_waitsForOwn, Cond.code yX2_waitsForOwn cX2_waitsForOwn 3 (some .boolean), Cond.fieldLink RX2 168 "FilledForOne$Kettle" "putOnBy" "I", Cond.methodLink RX2 150 yX2_upTo, Cond.instanceMethod yX2_upTo, Cond.selects RX2 yX2_upTo yX2_upTo, Cond.code yX2_upTo cX2_upTo 4 (some .int), Cond.fieldLink RX2 177 "FilledForOne$Comer" "figure" "I", Cond.methodLink RX2 183 Lib.Math.max.name, Cond.static Lib.Math.max.name, Cond.initialized "java/lang/Math", Cond.code Lib.Math.max.name Lib.Math.max.code 2 (some .int), Cond.methodLink RX2 189 Lib.Math.min.name, Cond.static Lib.Math.min.name, Cond.code Lib.Math.min.name Lib.Math.min.code 2 (some .int), Cond.methodLink RX2 174 yX2_wantsInLine, Cond.instanceMethod yX2_wantsInLine, Cond.selects RX2 yX2_wantsInLine yX2_wantsInLine]
def wsX2_pass_r5 : List Cond := [Cond.code yX2_wantsInLine cX2_wantsInLine 3 (some .int), Cond.methodLink RX2 180 yX2_wantsToCome, Cond.instanceMethod yX2_wantsToCome, Cond.selects RX2 yX2_wantsToCome yX2_wantsToCome, Cond.code yX2_wantsToCome cX2_wantsToCome 4 (some .int), Cond.methodLink RX2 154 yX3_fill, Cond.instanceMethod yX3_fill, Cond.selects RX3 yX3_fill yX3_fill, Cond.code yX3_fill cX3_fill 2 none, Cond.methodLink RX2 157 yX3_putOn, Cond.instanceMethod yX3_putOn, Cond.selects RX3 yX3_putOn yX3_putOn, Cond.code yX3_putOn cX3_putOn 4 none, Cond.fieldLink RX3 18 "FilledForOne$Kettle" "age" "I", Cond.fieldLink RX3 24 "FilledForOne$Kettle" "putOnBy" "I", Cond.static yX6_heatingMinutes, Cond.initialized RX6, Cond.code yX6_heatingMinutes cX6_heatingMinutes 4 (some .int), Cond.methodLink RX2 127 yX2_coolDown, Cond.instanceMethod yX2_coolDown, Cond.selects RX2 yX2_coolDown yX2_coolDown, Cond.code yX2_coolDown cX2_coolDown 2 none, Cond.methodLink RX2 171 yX3_cool, Cond.instanceMethod yX3_cool]
def wsX2_pass_r6 : List Cond := [Cond.selects RX3 yX3_cool yX3_cool, Cond.code yX3_cool cX3_cool 2 none, Cond.methodLink RX3 31 Lib.Math.max.name]
def wsX2_pass : List Cond := .code yX2_pass cX2_pass 3 none :: ((wsX2_pass_r1 ++ (wsX2_pass_r2 ++ (wsX2_pass_r3 ++ (wsX2_pass_r4 ++ (wsX2_pass_r5 ++ wsX2_pass_r6))))) ++ wsX20 ++ wsX10 ++ wsX30)
def wsX2_kindsThatFill_r1 : List Cond := [Cond.fieldLink RX2 50 "FilledForOne$Day" "lined" "I", Cond.fieldLink RX2 25 "FilledForOne$Day" "comers" "[LFilledForOne$Comer;", Cond.fieldLink RX2 37 "FilledForOne$Day" "line" "[I", Cond.methodLink RX2 150 yX2_upTo, Cond.instanceMethod yX2_upTo, Cond.selects RX2 yX2_upTo yX2_upTo, Cond.initialized RX2, Cond.code yX2_upTo cX2_upTo 4 (some .int), Cond.fieldLink RX2 84 "FilledForOne$Comer" "wants" "I", Cond.fieldLink RX2 18 "FilledForOne$Day" "settings" "[I", Cond.fieldLink RX2 53 "FilledForOne$Day" "minute" "I", Cond.fieldLink RX2 177 "FilledForOne$Comer" "figure" "I", Cond.methodLink RX2 183 Lib.Math.max.name, Cond.static Lib.Math.max.name, Cond.initialized "java/lang/Math", Cond.code Lib.Math.max.name Lib.Math.max.code 2 (some .int), Cond.methodLink RX2 189 Lib.Math.min.name, Cond.static Lib.Math.min.name, Cond.code Lib.Math.min.name Lib.Math.min.code 2 (some .int), Cond.methodLink RX2 174 yX2_wantsInLine, Cond.instanceMethod yX2_wantsInLine, Cond.selects RX2 yX2_wantsInLine yX2_wantsInLine, Cond.code yX2_wantsInLine cX2_wantsInLine 3 (some .int), Cond.fieldLink RX2 46 "FilledForOne$Day" "known" "I"]
def wsX2_kindsThatFill_r2 : List Cond := [Cond.fieldLink RX2 63 "FilledForOne$Comer" "state" "I", Cond.methodLink RX2 180 yX2_wantsToCome, Cond.instanceMethod yX2_wantsToCome, Cond.selects RX2 yX2_wantsToCome yX2_wantsToCome, Cond.code yX2_wantsToCome cX2_wantsToCome 4 (some .int), Cond.fieldLink RX2 83 "FilledForOne$Comer" "minute" "I"]
def wsX2_kindsThatFill : List Cond := .code yX2_kindsThatFill cX2_kindsThatFill 4 (some .int) :: ((wsX2_kindsThatFill_r1 ++ wsX2_kindsThatFill_r2) ++ wsX20 ++ wsX10)
def wsX2_someoneWantsTooMuch : List Cond := .code yX2_someoneWantsTooMuch cX2_someoneWantsTooMuch 2 (some .boolean) :: ([.fieldLink RX2 46 "FilledForOne$Day" "known" "I", .fieldLink RX2 25 "FilledForOne$Day" "comers" "[LFilledForOne$Comer;", .fieldLink RX2 84 "FilledForOne$Comer" "wants" "I", .fieldLink RX2 18 "FilledForOne$Day" "settings" "[I"] ++ wsX20 ++ wsX10)
def wsX2_allWaited : List Cond := .code yX2_allWaited cX2_allWaited 3 (some .int) :: ([.fieldLink RX2 46 "FilledForOne$Day" "known" "I", .fieldLink RX2 25 "FilledForOne$Day" "comers" "[LFilledForOne$Comer;", .methodLink RX2 192 yX1_waited, .instanceMethod yX1_waited, .selects RX1 yX1_waited yX1_waited, .initialized RX1, .code yX1_waited cX1_waited 1 (some .int), .fieldLink RX1 31 "FilledForOne$Comer" "state" "I", .fieldLink RX1 34 "FilledForOne$Comer" "servedAt" "I", .fieldLink RX1 22 "FilledForOne$Comer" "minute" "I", .fieldLink RX1 28 "FilledForOne$Comer" "patience" "I"] ++ wsX20 ++ wsX10)
def wsX2_cupsLeft : List Cond := .code yX2_cupsLeft cX2_cupsLeft 3 (some .int) :: ([.fieldLink RX2 32 "FilledForOne$Day" "kettles" "[LFilledForOne$Kettle;", .fieldLink RX2 134 "FilledForOne$Kettle" "level" "I", .methodLink RX2 98 yX2_kettlesInUse, .instanceMethod yX2_kettlesInUse, .selects RX2 yX2_kettlesInUse yX2_kettlesInUse, .initialized RX2, .code yX2_kettlesInUse cX2_kettlesInUse 1 (some .int), .fieldLink RX2 18 "FilledForOne$Day" "settings" "[I"] ++ wsX20 ++ wsX30)
def wsX2_cost_r1 : List Cond := [Cond.fieldLink RX2 18 "FilledForOne$Day" "settings" "[I", Cond.methodLink RX2 195 yX2_allWaited, Cond.instanceMethod yX2_allWaited, Cond.selects RX2 yX2_allWaited yX2_allWaited, Cond.initialized RX2, Cond.code yX2_allWaited cX2_allWaited 3 (some .int), Cond.fieldLink RX2 46 "FilledForOne$Day" "known" "I", Cond.fieldLink RX2 25 "FilledForOne$Day" "comers" "[LFilledForOne$Comer;", Cond.methodLink RX2 192 yX1_waited, Cond.instanceMethod yX1_waited, Cond.selects RX1 yX1_waited yX1_waited, Cond.initialized RX1, Cond.code yX1_waited cX1_waited 1 (some .int), Cond.fieldLink RX1 31 "FilledForOne$Comer" "state" "I", Cond.fieldLink RX1 34 "FilledForOne$Comer" "servedAt" "I", Cond.fieldLink RX1 22 "FilledForOne$Comer" "minute" "I", Cond.fieldLink RX1 28 "FilledForOne$Comer" "patience" "I", Cond.methodLink RX2 198 yX2_cupsLeft, Cond.instanceMethod yX2_cupsLeft, Cond.selects RX2 yX2_cupsLeft yX2_cupsLeft, Cond.code yX2_cupsLeft cX2_cupsLeft 3 (some .int), Cond.fieldLink RX2 32 "FilledForOne$Day" "kettles" "[LFilledForOne$Kettle;", Cond.fieldLink RX2 134 "FilledForOne$Kettle" "level" "I", Cond.methodLink RX2 98 yX2_kettlesInUse]
def wsX2_cost_r2 : List Cond := [Cond.instanceMethod yX2_kettlesInUse, Cond.selects RX2 yX2_kettlesInUse yX2_kettlesInUse, Cond.code yX2_kettlesInUse cX2_kettlesInUse 1 (some .int), Cond.methodLink RX2 90 yX2_comersWith, Cond.instanceMethod yX2_comersWith, Cond.selects RX2 yX2_comersWith yX2_comersWith, Cond.code yX2_comersWith cX2_comersWith 4 (some .int), Cond.fieldLink RX2 63 "FilledForOne$Comer" "state" "I"]
def wsX2_cost : List Cond := .code yX2_cost cX2_cost 1 (some .int) :: ((wsX2_cost_r1 ++ wsX2_cost_r2) ++ wsX20 ++ wsX10 ++ wsX30)
def wsX3_tell : List Cond := .code yX3_tell cX3_tell 3 (some .int) :: ([.fieldLink RX3 9 "FilledForOne$Kettle" "level" "I", .fieldLink RX3 15 "FilledForOne$Kettle" "warmth" "I", .fieldLink RX3 18 "FilledForOne$Kettle" "age" "I", .fieldLink RX3 21 "FilledForOne$Kettle" "busyTill" "I", .methodLink RX3 31 Lib.Math.max.name, .static Lib.Math.max.name, .initialized "java/lang/Math", .code Lib.Math.max.name Lib.Math.max.code 2 (some .int)] ++ wsX30)
def wsX4_init : List Cond := .code yX4_init cX4_init 1 none :: ([.methodLink RX4 3 objectInit, .instanceMethod objectInit, .code objectInit ⟨#[0xb1]⟩ 1 none, .arrayClass .int, .fieldLink RX4 9 "FilledForOne$Letters" "text" "[I"] ++ wsX40)
def wsX4_append : List Cond := .code yX4_append cX4_append 2 (some .int) :: ([.fieldLink RX4 15 "FilledForOne$Letters" "length" "I", .fieldLink RX4 9 "FilledForOne$Letters" "text" "[I"] ++ wsX40)
def wsX4_letterAt : List Cond := .code yX4_letterAt cX4_letterAt 2 (some .int) :: ([.fieldLink RX4 15 "FilledForOne$Letters" "length" "I", .fieldLink RX4 9 "FilledForOne$Letters" "text" "[I"] ++ wsX40)
def wsX4_skip : List Cond := .code yX4_skip cX4_skip 3 (some .boolean) :: ([.fieldLink RX4 19 "FilledForOne$Letters" "at" "I", .methodLink RX4 38 yX4_letterAt, .instanceMethod yX4_letterAt, .selects RX4 yX4_letterAt yX4_letterAt, .initialized RX4, .code yX4_letterAt cX4_letterAt 2 (some .int), .fieldLink RX4 15 "FilledForOne$Letters" "length" "I", .fieldLink RX4 9 "FilledForOne$Letters" "text" "[I"] ++ wsX40)
def wsX4_skipDigits : List Cond := .code yX4_skipDigits cX4_skipDigits 3 (some .boolean) :: ([.fieldLink RX4 19 "FilledForOne$Letters" "at" "I", .methodLink RX4 38 yX4_letterAt, .instanceMethod yX4_letterAt, .selects RX4 yX4_letterAt yX4_letterAt, .initialized RX4, .code yX4_letterAt cX4_letterAt 2 (some .int), .fieldLink RX4 15 "FilledForOne$Letters" "length" "I", .fieldLink RX4 9 "FilledForOne$Letters" "text" "[I"] ++ wsX40)
def wsX4_skipStatement : List Cond := .code yX4_skipStatement cX4_skipStatement 1 (some .boolean) :: ([.methodLink RX4 30 yX4_skip, .instanceMethod yX4_skip, .selects RX4 yX4_skip yX4_skip, .initialized RX4, .code yX4_skip cX4_skip 3 (some .boolean), .fieldLink RX4 19 "FilledForOne$Letters" "at" "I", .methodLink RX4 38 yX4_letterAt, .instanceMethod yX4_letterAt, .selects RX4 yX4_letterAt yX4_letterAt, .code yX4_letterAt cX4_letterAt 2 (some .int), .fieldLink RX4 15 "FilledForOne$Letters" "length" "I", .fieldLink RX4 9 "FilledForOne$Letters" "text" "[I", .methodLink RX4 34 yX4_skipDigits, .instanceMethod yX4_skipDigits, .selects RX4 yX4_skipDigits yX4_skipDigits, .code yX4_skipDigits cX4_skipDigits 3 (some .boolean)] ++ wsX40)
def wsX4_number : List Cond := .code yX4_number cX4_number 5 (some .int) :: ([.methodLink RX4 38 yX4_letterAt, .instanceMethod yX4_letterAt, .selects RX4 yX4_letterAt yX4_letterAt, .initialized RX4, .code yX4_letterAt cX4_letterAt 2 (some .int), .fieldLink RX4 15 "FilledForOne$Letters" "length" "I", .fieldLink RX4 9 "FilledForOne$Letters" "text" "[I"] ++ wsX40)
def wsX4_carryOut_r1 : List Cond := [Cond.fieldLink RX4 19 "FilledForOne$Letters" "at" "I", Cond.fieldLink RX4 61 "FilledForOne$Day" "comers" "[LFilledForOne$Comer;", Cond.methodLink RX4 38 yX4_letterAt, Cond.instanceMethod yX4_letterAt, Cond.selects RX4 yX4_letterAt yX4_letterAt, Cond.initialized RX4, Cond.code yX4_letterAt cX4_letterAt 2 (some .int), Cond.fieldLink RX4 15 "FilledForOne$Letters" "length" "I", Cond.fieldLink RX4 9 "FilledForOne$Letters" "text" "[I", Cond.methodLink RX4 42 yX4_number, Cond.instanceMethod yX4_number, Cond.selects RX4 yX4_number yX4_number, Cond.code yX4_number cX4_number 5 (some .int), Cond.methodLink RX4 46 yX2_settingRefusal, Cond.instanceMethod yX2_settingRefusal, Cond.selects RX2 yX2_settingRefusal yX2_settingRefusal, Cond.initialized RX2, Cond.code yX2_settingRefusal cX2_settingRefusal 5 (some .int), Cond.fieldLink RX2 18 "FilledForOne$Day" "settings" "[I", Cond.fieldLink RX2 53 "FilledForOne$Day" "minute" "I", Cond.methodLink RX2 75 yX2_highestLevel, Cond.instanceMethod yX2_highestLevel, Cond.selects RX2 yX2_highestLevel yX2_highestLevel, Cond.code yX2_highestLevel cX2_highestLevel 3 (some .int)]
def wsX4_carryOut_r2 : List Cond := [Cond.fieldLink RX2 32 "FilledForOne$Day" "kettles" "[LFilledForOne$Kettle;", Cond.fieldLink RX2 134 "FilledForOne$Kettle" "level" "I", Cond.methodLink RX2 183 Lib.Math.max.name, Cond.static Lib.Math.max.name, Cond.initialized "java/lang/Math", Cond.code Lib.Math.max.name Lib.Math.max.code 2 (some .int), Cond.methodLink RX2 98 yX2_kettlesInUse, Cond.instanceMethod yX2_kettlesInUse, Cond.selects RX2 yX2_kettlesInUse yX2_kettlesInUse, Cond.code yX2_kettlesInUse cX2_kettlesInUse 1 (some .int), Cond.methodLink RX4 51 yX2_change, Cond.instanceMethod yX2_change, Cond.selects RX2 yX2_change yX2_change, Cond.code yX2_change cX2_change 4 (some .int), Cond.methodLink RX4 54 yX2_add, Cond.instanceMethod yX2_add, Cond.selects RX2 yX2_add yX2_add, Cond.code yX2_add cX2_add 8 (some .boolean), Cond.fieldLink RX2 46 "FilledForOne$Day" "known" "I", Cond.fieldLink RX2 25 "FilledForOne$Day" "comers" "[LFilledForOne$Comer;", Cond.fieldLink RX2 83 "FilledForOne$Comer" "minute" "I", Cond.fieldLink RX2 84 "FilledForOne$Comer" "wants" "I", Cond.fieldLink RX2 87 "FilledForOne$Comer" "patience" "I", Cond.fieldLink RX2 63 "FilledForOne$Comer" "state" "I"]
def wsX4_carryOut_r3 : List Cond := [Cond.methodLink RX2 79 yX1_become, Cond.instanceMethod yX1_become, Cond.selects RX1 yX1_become yX1_become, Cond.initialized RX1, Cond.code yX1_become cX1_become 3 none, Cond.fieldLink RX1 9 "FilledForOne$Comer" "kind" "I", Cond.fieldLink RX1 15 "FilledForOne$Comer" "figure" "I", Cond.methodLink RX4 58 yX2_hasComer, Cond.instanceMethod yX2_hasComer, Cond.selects RX2 yX2_hasComer yX2_hasComer, Cond.code yX2_hasComer cX2_hasComer 2 (some .boolean), Cond.methodLink RX4 65 yX1_become]
def wsX4_carryOut : List Cond := .code yX4_carryOut cX4_carryOut 6 (some .boolean) :: ((wsX4_carryOut_r1 ++ (wsX4_carryOut_r2 ++ wsX4_carryOut_r3)) ++ wsX40 ++ wsX20 ++ wsX30 ++ wsX10)
def wsX4_read_r1 : List Cond := [Cond.fieldLink RX4 19 "FilledForOne$Letters" "at" "I", Cond.fieldLink RX4 15 "FilledForOne$Letters" "length" "I", Cond.methodLink RX4 22 yX4_skipStatement, Cond.instanceMethod yX4_skipStatement, Cond.selects RX4 yX4_skipStatement yX4_skipStatement, Cond.initialized RX4, Cond.code yX4_skipStatement cX4_skipStatement 1 (some .boolean), Cond.methodLink RX4 30 yX4_skip, Cond.instanceMethod yX4_skip, Cond.selects RX4 yX4_skip yX4_skip, Cond.code yX4_skip cX4_skip 3 (some .boolean), Cond.methodLink RX4 38 yX4_letterAt, Cond.instanceMethod yX4_letterAt, Cond.selects RX4 yX4_letterAt yX4_letterAt, Cond.code yX4_letterAt cX4_letterAt 2 (some .int), Cond.fieldLink RX4 9 "FilledForOne$Letters" "text" "[I", Cond.methodLink RX4 34 yX4_skipDigits, Cond.instanceMethod yX4_skipDigits, Cond.selects RX4 yX4_skipDigits yX4_skipDigits, Cond.code yX4_skipDigits cX4_skipDigits 3 (some .boolean), Cond.methodLink RX4 26 yX4_carryOut, Cond.instanceMethod yX4_carryOut, Cond.selects RX4 yX4_carryOut yX4_carryOut, Cond.code yX4_carryOut cX4_carryOut 6 (some .boolean)]
def wsX4_read_r2 : List Cond := [Cond.fieldLink RX4 61 "FilledForOne$Day" "comers" "[LFilledForOne$Comer;", Cond.methodLink RX4 42 yX4_number, Cond.instanceMethod yX4_number, Cond.selects RX4 yX4_number yX4_number, Cond.code yX4_number cX4_number 5 (some .int), Cond.methodLink RX4 46 yX2_settingRefusal, Cond.instanceMethod yX2_settingRefusal, Cond.selects RX2 yX2_settingRefusal yX2_settingRefusal, Cond.initialized RX2, Cond.code yX2_settingRefusal cX2_settingRefusal 5 (some .int), Cond.fieldLink RX2 18 "FilledForOne$Day" "settings" "[I", Cond.fieldLink RX2 53 "FilledForOne$Day" "minute" "I", Cond.methodLink RX2 75 yX2_highestLevel, Cond.instanceMethod yX2_highestLevel, Cond.selects RX2 yX2_highestLevel yX2_highestLevel, Cond.code yX2_highestLevel cX2_highestLevel 3 (some .int), Cond.fieldLink RX2 32 "FilledForOne$Day" "kettles" "[LFilledForOne$Kettle;", Cond.fieldLink RX2 134 "FilledForOne$Kettle" "level" "I", Cond.methodLink RX2 183 Lib.Math.max.name, Cond.static Lib.Math.max.name, Cond.initialized "java/lang/Math", Cond.code Lib.Math.max.name Lib.Math.max.code 2 (some .int), Cond.methodLink RX2 98 yX2_kettlesInUse, Cond.instanceMethod yX2_kettlesInUse]
def wsX4_read_r3 : List Cond := [Cond.selects RX2 yX2_kettlesInUse yX2_kettlesInUse, Cond.code yX2_kettlesInUse cX2_kettlesInUse 1 (some .int), Cond.methodLink RX4 51 yX2_change, Cond.instanceMethod yX2_change, Cond.selects RX2 yX2_change yX2_change, Cond.code yX2_change cX2_change 4 (some .int), Cond.methodLink RX4 54 yX2_add, Cond.instanceMethod yX2_add, Cond.selects RX2 yX2_add yX2_add, Cond.code yX2_add cX2_add 8 (some .boolean), Cond.fieldLink RX2 46 "FilledForOne$Day" "known" "I", Cond.fieldLink RX2 25 "FilledForOne$Day" "comers" "[LFilledForOne$Comer;", Cond.fieldLink RX2 83 "FilledForOne$Comer" "minute" "I", Cond.fieldLink RX2 84 "FilledForOne$Comer" "wants" "I", Cond.fieldLink RX2 87 "FilledForOne$Comer" "patience" "I", Cond.fieldLink RX2 63 "FilledForOne$Comer" "state" "I", Cond.methodLink RX2 79 yX1_become, Cond.instanceMethod yX1_become, Cond.selects RX1 yX1_become yX1_become, Cond.initialized RX1, Cond.code yX1_become cX1_become 3 none, Cond.fieldLink RX1 9 "FilledForOne$Comer" "kind" "I", Cond.fieldLink RX1 15 "FilledForOne$Comer" "figure" "I", Cond.methodLink RX4 58 yX2_hasComer]
def wsX4_read_r4 : List Cond := [Cond.instanceMethod yX2_hasComer, Cond.selects RX2 yX2_hasComer yX2_hasComer, Cond.code yX2_hasComer cX2_hasComer 2 (some .boolean), Cond.methodLink RX4 65 yX1_become]
def wsX4_read : List Cond := .code yX4_read cX4_read 4 (some .int) :: ((wsX4_read_r1 ++ (wsX4_read_r2 ++ (wsX4_read_r3 ++ wsX4_read_r4))) ++ wsX40 ++ wsX20 ++ wsX30 ++ wsX10)
def wsX5_init_r1 : List Cond := [Cond.methodLink RX5 3 objectInit, Cond.instanceMethod objectInit, Cond.code objectInit ⟨#[0xb1]⟩ 1 none, Cond.classLink RX5 9 RX2, Cond.instantiable RX2 8, Cond.initialized RX2, Cond.fieldLink RX5 12 "FilledForOne$Mind" "day" "LFilledForOne$Day;", Cond.methodLink RX5 11 yX2_init, Cond.instanceMethod yX2_init, Cond.code yX2_init cX2_init 2 none, Cond.methodLink RX2 3 objectInit, Cond.methodLink RX2 13 ⟨"[I", "clone", "()Ljava/lang/Object;"⟩, Cond.sameMethod "[I" "java/lang/Object" "clone" "()Ljava/lang/Object;", Cond.native ⟨"java/lang/Object", "clone", "()Ljava/lang/Object;"⟩, Cond.instanceMethod ⟨"java/lang/Object", "clone", "()Ljava/lang/Object;"⟩, Cond.selects "[I" ⟨"[I", "clone", "()Ljava/lang/Object;"⟩ ⟨"java/lang/Object", "clone", "()Ljava/lang/Object;"⟩, Cond.classLink RX2 14 "[I", Cond.fieldLink RX2 18 "FilledForOne$Day" "settings" "[I", Cond.classLink RX2 23 RX1, Cond.fieldLink RX2 25 "FilledForOne$Day" "comers" "[LFilledForOne$Comer;", Cond.instantiable RX1 7, Cond.initialized RX1, Cond.classLink RX2 30 RX3, Cond.fieldLink RX2 32 "FilledForOne$Day" "kettles" "[LFilledForOne$Kettle;"]
def wsX5_init_r2 : List Cond := [Cond.instantiable RX3 5, Cond.initialized RX3, Cond.arrayClass .int, Cond.fieldLink RX2 37 "FilledForOne$Day" "line" "[I", Cond.instanceMethod yX1_init, Cond.code yX1_init cX1_init 1 none, Cond.methodLink RX1 3 objectInit, Cond.instanceMethod yX3_init, Cond.code yX3_init cX3_init 1 none, Cond.methodLink RX3 3 objectInit]
def wsX5_init : List Cond := .code yX5_init cX5_init 1 none :: ((wsX5_init_r1 ++ wsX5_init_r2) ++ wsX20 ++ wsX50 ++ wsX10 ++ wsX30)
def wsX5_take_r1 : List Cond := [Cond.fieldLink RX5 12 "FilledForOne$Mind" "day" "LFilledForOne$Day;", Cond.methodLink RX5 18 yX2_copy, Cond.instanceMethod yX2_copy, Cond.selects RX2 yX2_copy yX2_copy, Cond.initialized RX2, Cond.code yX2_copy cX2_copy 3 none, Cond.fieldLink RX2 18 "FilledForOne$Day" "settings" "[I", Cond.methodLink RX2 40 arraycopyName, Cond.native arraycopyName, Cond.static arraycopyName, Cond.initialized "java/lang/System", Cond.fieldLink RX2 37 "FilledForOne$Day" "line" "[I", Cond.fieldLink RX2 46 "FilledForOne$Day" "known" "I", Cond.fieldLink RX2 50 "FilledForOne$Day" "lined" "I", Cond.fieldLink RX2 53 "FilledForOne$Day" "minute" "I", Cond.fieldLink RX2 25 "FilledForOne$Day" "comers" "[LFilledForOne$Comer;", Cond.fieldLink RX2 32 "FilledForOne$Day" "kettles" "[LFilledForOne$Kettle;", Cond.methodLink RX2 56 yX1_copy, Cond.instanceMethod yX1_copy, Cond.selects RX1 yX1_copy yX1_copy, Cond.initialized RX1, Cond.code yX1_copy cX1_copy 2 none, Cond.fieldLink RX1 9 "FilledForOne$Comer" "kind" "I", Cond.fieldLink RX1 15 "FilledForOne$Comer" "figure" "I"]
def wsX5_take_r2 : List Cond := [Cond.fieldLink RX1 22 "FilledForOne$Comer" "minute" "I", Cond.fieldLink RX1 25 "FilledForOne$Comer" "wants" "I", Cond.fieldLink RX1 28 "FilledForOne$Comer" "patience" "I", Cond.fieldLink RX1 31 "FilledForOne$Comer" "state" "I", Cond.fieldLink RX1 34 "FilledForOne$Comer" "servedAt" "I", Cond.methodLink RX1 18 yX1_become, Cond.instanceMethod yX1_become, Cond.selects RX1 yX1_become yX1_become, Cond.code yX1_become cX1_become 3 none, Cond.methodLink RX2 60 yX3_copy, Cond.instanceMethod yX3_copy, Cond.selects RX3 yX3_copy yX3_copy, Cond.initialized RX3, Cond.code yX3_copy cX3_copy 2 none, Cond.fieldLink RX3 9 "FilledForOne$Kettle" "level" "I", Cond.fieldLink RX3 15 "FilledForOne$Kettle" "warmth" "I", Cond.fieldLink RX3 18 "FilledForOne$Kettle" "age" "I", Cond.fieldLink RX3 21 "FilledForOne$Kettle" "busyTill" "I", Cond.fieldLink RX3 24 "FilledForOne$Kettle" "putOnBy" "I"]
def wsX5_take : List Cond := .code yX5_take cX5_take 2 none :: ((wsX5_take_r1 ++ wsX5_take_r2) ++ wsX50 ++ wsX20 ++ wsX10 ++ wsX30)
def wsX5_restOfDay_r1 : List Cond := [Cond.fieldLink RX5 12 "FilledForOne$Mind" "day" "LFilledForOne$Day;", Cond.fieldLink RX5 22 "FilledForOne$Day" "boils" "I", Cond.methodLink RX5 26 yX2_pass, Cond.instanceMethod yX2_pass, Cond.selects RX2 yX2_pass yX2_pass, Cond.initialized RX2, Cond.code yX2_pass cX2_pass 3 none, Cond.methodLink RX2 105 yX2_isOver, Cond.instanceMethod yX2_isOver, Cond.selects RX2 yX2_isOver yX2_isOver, Cond.code yX2_isOver cX2_isOver 1 (some .boolean), Cond.fieldLink RX2 53 "FilledForOne$Day" "minute" "I", Cond.fieldLink RX2 50 "FilledForOne$Day" "lined" "I", Cond.methodLink RX2 90 yX2_comersWith, Cond.instanceMethod yX2_comersWith, Cond.selects RX2 yX2_comersWith yX2_comersWith, Cond.code yX2_comersWith cX2_comersWith 4 (some .int), Cond.fieldLink RX2 46 "FilledForOne$Day" "known" "I", Cond.fieldLink RX2 25 "FilledForOne$Day" "comers" "[LFilledForOne$Comer;", Cond.fieldLink RX2 63 "FilledForOne$Comer" "state" "I", Cond.methodLink RX2 94 yX2_allFree, Cond.instanceMethod yX2_allFree, Cond.selects RX2 yX2_allFree yX2_allFree, Cond.code yX2_allFree cX2_allFree 2 (some .boolean)]
def wsX5_restOfDay_r2 : List Cond := [Cond.fieldLink RX2 32 "FilledForOne$Day" "kettles" "[LFilledForOne$Kettle;", Cond.methodLink RX2 98 yX2_kettlesInUse, Cond.instanceMethod yX2_kettlesInUse, Cond.selects RX2 yX2_kettlesInUse yX2_kettlesInUse, Cond.code yX2_kettlesInUse cX2_kettlesInUse 1 (some .int), Cond.fieldLink RX2 18 "FilledForOne$Day" "settings" "[I", Cond.methodLink RX2 101 yX3_isFree, Cond.instanceMethod yX3_isFree, Cond.selects RX3 yX3_isFree yX3_isFree, Cond.initialized RX3, Cond.code yX3_isFree cX3_isFree 2 (some .boolean), Cond.fieldLink RX3 21 "FilledForOne$Kettle" "busyTill" "I", Cond.methodLink RX2 108 yX2_passMinute, Cond.instanceMethod yX2_passMinute, Cond.selects RX2 yX2_passMinute yX2_passMinute, Cond.code yX2_passMinute cX2_passMinute 2 none, Cond.fieldLink RX2 37 "FilledForOne$Day" "line" "[I", Cond.methodLink RX2 111 yX2_lineUp, Cond.instanceMethod yX2_lineUp, Cond.selects RX2 yX2_lineUp yX2_lineUp, Cond.code yX2_lineUp cX2_lineUp 2 none, Cond.fieldLink RX2 83 "FilledForOne$Comer" "minute" "I", Cond.methodLink RX2 114 yX2_loseImpatient, Cond.instanceMethod yX2_loseImpatient]
def wsX5_restOfDay_r3 : List Cond := [Cond.selects RX2 yX2_loseImpatient yX2_loseImpatient, Cond.code yX2_loseImpatient cX2_loseImpatient 3 none, Cond.fieldLink RX2 87 "FilledForOne$Comer" "patience" "I", Cond.methodLink RX2 124 yX2_closeUp, Cond.instanceMethod yX2_closeUp, Cond.selects RX2 yX2_closeUp yX2_closeUp, Cond.code yX2_closeUp cX2_closeUp 3 none, Cond.methodLink RX2 117 yX2_serve, Cond.instanceMethod yX2_serve, Cond.selects RX2 yX2_serve yX2_serve, Cond.code yX2_serve cX2_serve 4 (some .boolean), Cond.fieldLink RX2 84 "FilledForOne$Comer" "wants" "I", Cond.fieldLink RX2 134 "FilledForOne$Kettle" "level" "I", Cond.fieldLink RX2 137 "FilledForOne$Comer" "servedAt" "I", Cond.methodLink RX2 130 yX2_firstReady, Cond.instanceMethod yX2_firstReady, Cond.selects RX2 yX2_firstReady yX2_firstReady, Cond.code yX2_firstReady cX2_firstReady 3 (some (.object "FilledForOne$Kettle")), Cond.methodLink RX2 164 yX3_isReady, Cond.instanceMethod yX3_isReady, Cond.selects RX3 yX3_isReady yX3_isReady, Cond.code yX3_isReady cX3_isReady 3 (some .boolean), Cond.fieldLink RX3 15 "FilledForOne$Kettle" "warmth" "I", Cond.fieldLink RX3 9 "FilledForOne$Kettle" "level" "I"]
def wsX5_restOfDay_r4 : List Cond := [Cond.methodLink RX2 120 yX2_boil, Cond.instanceMethod yX2_boil, Cond.selects RX2 yX2_boil yX2_boil, Cond.code yX2_boil cX2_boil 5 none, Cond.fieldLink RX2 147 "FilledForOne$Comer" "kind" "I", Cond.fieldLink RX2 161 "FilledForOne$Day" "boils" "I", Cond.methodLink RX2 140 yX2_firstFree, Cond.instanceMethod yX2_firstFree, Cond.selects RX2 yX2_firstFree yX2_firstFree, Cond.code yX2_firstFree cX2_firstFree 2 (some (.object "FilledForOne$Kettle")), Cond.methodLink RX2 144 yX2_waitsForOwn, Cond.instanceMethod yX2_waitsForOwn, Cond.selects RX2 yX2_waitsForOwn yX2_waitsForOwn, Cond.code yX2_waitsForOwn cX2_waitsForOwn 3 (some .boolean), Cond.fieldLink RX2 168 "FilledForOne$Kettle" "putOnBy" "I", Cond.methodLink RX2 150 yX2_upTo, Cond.instanceMethod yX2_upTo, Cond.selects RX2 yX2_upTo yX2_upTo, Cond.code yX2_upTo cX2_upTo 4 (some .int), Cond.fieldLink RX2 177 "FilledForOne$Comer" "figure" "I", Cond.methodLink RX2 183 Lib.Math.max.name, Cond.static Lib.Math.max.name, Cond.initialized "java/lang/Math", Cond.code Lib.Math.max.name Lib.Math.max.code 2 (some .int)]
def wsX5_restOfDay_r5 : List Cond := [Cond.methodLink RX2 189 Lib.Math.min.name, Cond.static Lib.Math.min.name, Cond.code Lib.Math.min.name Lib.Math.min.code 2 (some .int), Cond.methodLink RX2 174 yX2_wantsInLine, Cond.instanceMethod yX2_wantsInLine, Cond.selects RX2 yX2_wantsInLine yX2_wantsInLine, Cond.code yX2_wantsInLine cX2_wantsInLine 3 (some .int), Cond.methodLink RX2 180 yX2_wantsToCome, Cond.instanceMethod yX2_wantsToCome, Cond.selects RX2 yX2_wantsToCome yX2_wantsToCome, Cond.code yX2_wantsToCome cX2_wantsToCome 4 (some .int), Cond.methodLink RX2 154 yX3_fill, Cond.instanceMethod yX3_fill, Cond.selects RX3 yX3_fill yX3_fill, Cond.code yX3_fill cX3_fill 2 none, Cond.methodLink RX2 157 yX3_putOn, Cond.instanceMethod yX3_putOn, Cond.selects RX3 yX3_putOn yX3_putOn, Cond.code yX3_putOn cX3_putOn 4 none, Cond.fieldLink RX3 18 "FilledForOne$Kettle" "age" "I", Cond.fieldLink RX3 24 "FilledForOne$Kettle" "putOnBy" "I", Cond.static yX6_heatingMinutes, Cond.initialized RX6, Cond.code yX6_heatingMinutes cX6_heatingMinutes 4 (some .int)]
def wsX5_restOfDay_r6 : List Cond := [Cond.methodLink RX2 127 yX2_coolDown, Cond.instanceMethod yX2_coolDown, Cond.selects RX2 yX2_coolDown yX2_coolDown, Cond.code yX2_coolDown cX2_coolDown 2 none, Cond.methodLink RX2 171 yX3_cool, Cond.instanceMethod yX3_cool, Cond.selects RX3 yX3_cool yX3_cool, Cond.code yX3_cool cX3_cool 2 none, Cond.methodLink RX3 31 Lib.Math.max.name, Cond.methodLink RX5 30 yX2_allWaited, Cond.instanceMethod yX2_allWaited, Cond.selects RX2 yX2_allWaited yX2_allWaited, Cond.code yX2_allWaited cX2_allWaited 3 (some .int), Cond.methodLink RX2 192 yX1_waited, Cond.instanceMethod yX1_waited, Cond.selects RX1 yX1_waited yX1_waited, Cond.initialized RX1, Cond.code yX1_waited cX1_waited 1 (some .int), Cond.fieldLink RX1 31 "FilledForOne$Comer" "state" "I", Cond.fieldLink RX1 34 "FilledForOne$Comer" "servedAt" "I", Cond.fieldLink RX1 22 "FilledForOne$Comer" "minute" "I", Cond.fieldLink RX1 28 "FilledForOne$Comer" "patience" "I", Cond.methodLink RX5 34 yX2_comersWith, Cond.methodLink RX5 38 yX2_cupsLeft]
def wsX5_restOfDay_r7 : List Cond := [Cond.instanceMethod yX2_cupsLeft, Cond.selects RX2 yX2_cupsLeft yX2_cupsLeft, Cond.code yX2_cupsLeft cX2_cupsLeft 3 (some .int), Cond.methodLink RX5 41 yX2_cost, Cond.instanceMethod yX2_cost, Cond.selects RX2 yX2_cost yX2_cost, Cond.code yX2_cost cX2_cost 1 (some .int), Cond.methodLink RX2 195 yX2_allWaited, Cond.methodLink RX2 198 yX2_cupsLeft]
def wsX5_restOfDay : List Cond := .code yX5_restOfDay cX5_restOfDay 2 (some .int) :: ((wsX5_restOfDay_r1 ++ (wsX5_restOfDay_r2 ++ (wsX5_restOfDay_r3 ++ (wsX5_restOfDay_r4 ++ (wsX5_restOfDay_r5 ++ (wsX5_restOfDay_r6 ++ wsX5_restOfDay_r7)))))) ++ wsX50 ++ wsX20 ++ wsX10 ++ wsX30)
def wsX5_servedAt_r1 : List Cond := [Cond.fieldLink RX5 12 "FilledForOne$Mind" "day" "LFilledForOne$Day;", Cond.fieldLink RX5 44 "FilledForOne$Day" "comers" "[LFilledForOne$Comer;", Cond.fieldLink RX5 48 "FilledForOne$Comer" "state" "I", Cond.fieldLink RX5 53 "FilledForOne$Comer" "servedAt" "I", Cond.methodLink RX5 26 yX2_pass, Cond.instanceMethod yX2_pass, Cond.selects RX2 yX2_pass yX2_pass, Cond.initialized RX2, Cond.code yX2_pass cX2_pass 3 none, Cond.methodLink RX2 105 yX2_isOver, Cond.instanceMethod yX2_isOver, Cond.selects RX2 yX2_isOver yX2_isOver, Cond.code yX2_isOver cX2_isOver 1 (some .boolean), Cond.fieldLink RX2 53 "FilledForOne$Day" "minute" "I", Cond.fieldLink RX2 50 "FilledForOne$Day" "lined" "I", Cond.methodLink RX2 90 yX2_comersWith, Cond.instanceMethod yX2_comersWith, Cond.selects RX2 yX2_comersWith yX2_comersWith, Cond.code yX2_comersWith cX2_comersWith 4 (some .int), Cond.fieldLink RX2 46 "FilledForOne$Day" "known" "I", Cond.fieldLink RX2 25 "FilledForOne$Day" "comers" "[LFilledForOne$Comer;", Cond.fieldLink RX2 63 "FilledForOne$Comer" "state" "I", Cond.methodLink RX2 94 yX2_allFree, Cond.instanceMethod yX2_allFree]
def wsX5_servedAt_r2 : List Cond := [Cond.selects RX2 yX2_allFree yX2_allFree, Cond.code yX2_allFree cX2_allFree 2 (some .boolean), Cond.fieldLink RX2 32 "FilledForOne$Day" "kettles" "[LFilledForOne$Kettle;", Cond.methodLink RX2 98 yX2_kettlesInUse, Cond.instanceMethod yX2_kettlesInUse, Cond.selects RX2 yX2_kettlesInUse yX2_kettlesInUse, Cond.code yX2_kettlesInUse cX2_kettlesInUse 1 (some .int), Cond.fieldLink RX2 18 "FilledForOne$Day" "settings" "[I", Cond.methodLink RX2 101 yX3_isFree, Cond.instanceMethod yX3_isFree, Cond.selects RX3 yX3_isFree yX3_isFree, Cond.initialized RX3, Cond.code yX3_isFree cX3_isFree 2 (some .boolean), Cond.fieldLink RX3 21 "FilledForOne$Kettle" "busyTill" "I", Cond.methodLink RX2 108 yX2_passMinute, Cond.instanceMethod yX2_passMinute, Cond.selects RX2 yX2_passMinute yX2_passMinute, Cond.code yX2_passMinute cX2_passMinute 2 none, Cond.fieldLink RX2 37 "FilledForOne$Day" "line" "[I", Cond.methodLink RX2 111 yX2_lineUp, Cond.instanceMethod yX2_lineUp, Cond.selects RX2 yX2_lineUp yX2_lineUp, Cond.code yX2_lineUp cX2_lineUp 2 none, Cond.fieldLink RX2 83 "FilledForOne$Comer" "minute" "I"]
def wsX5_servedAt_r3 : List Cond := [Cond.methodLink RX2 114 yX2_loseImpatient, Cond.instanceMethod yX2_loseImpatient, Cond.selects RX2 yX2_loseImpatient yX2_loseImpatient, Cond.code yX2_loseImpatient cX2_loseImpatient 3 none, Cond.fieldLink RX2 87 "FilledForOne$Comer" "patience" "I", Cond.methodLink RX2 124 yX2_closeUp, Cond.instanceMethod yX2_closeUp, Cond.selects RX2 yX2_closeUp yX2_closeUp, Cond.code yX2_closeUp cX2_closeUp 3 none, Cond.methodLink RX2 117 yX2_serve, Cond.instanceMethod yX2_serve, Cond.selects RX2 yX2_serve yX2_serve, Cond.code yX2_serve cX2_serve 4 (some .boolean), Cond.fieldLink RX2 84 "FilledForOne$Comer" "wants" "I", Cond.fieldLink RX2 134 "FilledForOne$Kettle" "level" "I", Cond.fieldLink RX2 137 "FilledForOne$Comer" "servedAt" "I", Cond.methodLink RX2 130 yX2_firstReady, Cond.instanceMethod yX2_firstReady, Cond.selects RX2 yX2_firstReady yX2_firstReady, Cond.code yX2_firstReady cX2_firstReady 3 (some (.object "FilledForOne$Kettle")), Cond.methodLink RX2 164 yX3_isReady, Cond.instanceMethod yX3_isReady, Cond.selects RX3 yX3_isReady yX3_isReady, Cond.code yX3_isReady cX3_isReady 3 (some .boolean)]
def wsX5_servedAt_r4 : List Cond := [Cond.fieldLink RX3 15 "FilledForOne$Kettle" "warmth" "I", Cond.fieldLink RX3 9 "FilledForOne$Kettle" "level" "I", Cond.methodLink RX2 120 yX2_boil, Cond.instanceMethod yX2_boil, Cond.selects RX2 yX2_boil yX2_boil, Cond.code yX2_boil cX2_boil 5 none, Cond.fieldLink RX2 147 "FilledForOne$Comer" "kind" "I", Cond.fieldLink RX2 161 "FilledForOne$Day" "boils" "I", Cond.methodLink RX2 140 yX2_firstFree, Cond.instanceMethod yX2_firstFree, Cond.selects RX2 yX2_firstFree yX2_firstFree, Cond.code yX2_firstFree cX2_firstFree 2 (some (.object "FilledForOne$Kettle")), Cond.methodLink RX2 144 yX2_waitsForOwn, Cond.instanceMethod yX2_waitsForOwn, Cond.selects RX2 yX2_waitsForOwn yX2_waitsForOwn, Cond.code yX2_waitsForOwn cX2_waitsForOwn 3 (some .boolean), Cond.fieldLink RX2 168 "FilledForOne$Kettle" "putOnBy" "I", Cond.methodLink RX2 150 yX2_upTo, Cond.instanceMethod yX2_upTo, Cond.selects RX2 yX2_upTo yX2_upTo, Cond.code yX2_upTo cX2_upTo 4 (some .int), Cond.fieldLink RX2 177 "FilledForOne$Comer" "figure" "I", Cond.methodLink RX2 183 Lib.Math.max.name, Cond.static Lib.Math.max.name]
def wsX5_servedAt_r5 : List Cond := [Cond.initialized "java/lang/Math", Cond.code Lib.Math.max.name Lib.Math.max.code 2 (some .int), Cond.methodLink RX2 189 Lib.Math.min.name, Cond.static Lib.Math.min.name, Cond.code Lib.Math.min.name Lib.Math.min.code 2 (some .int), Cond.methodLink RX2 174 yX2_wantsInLine, Cond.instanceMethod yX2_wantsInLine, Cond.selects RX2 yX2_wantsInLine yX2_wantsInLine, Cond.code yX2_wantsInLine cX2_wantsInLine 3 (some .int), Cond.methodLink RX2 180 yX2_wantsToCome, Cond.instanceMethod yX2_wantsToCome, Cond.selects RX2 yX2_wantsToCome yX2_wantsToCome, Cond.code yX2_wantsToCome cX2_wantsToCome 4 (some .int), Cond.methodLink RX2 154 yX3_fill, Cond.instanceMethod yX3_fill, Cond.selects RX3 yX3_fill yX3_fill, Cond.code yX3_fill cX3_fill 2 none, Cond.methodLink RX2 157 yX3_putOn, Cond.instanceMethod yX3_putOn, Cond.selects RX3 yX3_putOn yX3_putOn, Cond.code yX3_putOn cX3_putOn 4 none, Cond.fieldLink RX3 18 "FilledForOne$Kettle" "age" "I", Cond.fieldLink RX3 24 "FilledForOne$Kettle" "putOnBy" "I", Cond.static yX6_heatingMinutes]
def wsX5_servedAt_r6 : List Cond := [Cond.initialized RX6, Cond.code yX6_heatingMinutes cX6_heatingMinutes 4 (some .int), Cond.methodLink RX2 127 yX2_coolDown, Cond.instanceMethod yX2_coolDown, Cond.selects RX2 yX2_coolDown yX2_coolDown, Cond.code yX2_coolDown cX2_coolDown 2 none, Cond.methodLink RX2 171 yX3_cool, Cond.instanceMethod yX3_cool, Cond.selects RX3 yX3_cool yX3_cool, Cond.code yX3_cool cX3_cool 2 none, Cond.methodLink RX3 31 Lib.Math.max.name]
def wsX5_servedAt : List Cond := .code yX5_servedAt cX5_servedAt 3 (some .int) :: ((wsX5_servedAt_r1 ++ (wsX5_servedAt_r2 ++ (wsX5_servedAt_r3 ++ (wsX5_servedAt_r4 ++ (wsX5_servedAt_r5 ++ wsX5_servedAt_r6))))) ++ wsX50 ++ wsX20 ++ wsX10 ++ wsX30)
def wsX5_costAnew_r1 : List Cond := [Cond.fieldLink RX5 12 "FilledForOne$Mind" "day" "LFilledForOne$Day;", Cond.methodLink RX5 56 yX2_begin, Cond.instanceMethod yX2_begin, Cond.selects RX2 yX2_begin yX2_begin, Cond.initialized RX2, Cond.code yX2_begin cX2_begin 2 none, Cond.fieldLink RX2 53 "FilledForOne$Day" "minute" "I", Cond.fieldLink RX2 50 "FilledForOne$Day" "lined" "I", Cond.fieldLink RX2 46 "FilledForOne$Day" "known" "I", Cond.fieldLink RX2 25 "FilledForOne$Day" "comers" "[LFilledForOne$Comer;", Cond.fieldLink RX2 63 "FilledForOne$Comer" "state" "I", Cond.fieldLink RX2 32 "FilledForOne$Day" "kettles" "[LFilledForOne$Kettle;", Cond.methodLink RX2 66 yX3_begin, Cond.instanceMethod yX3_begin, Cond.selects RX3 yX3_begin yX3_begin, Cond.initialized RX3, Cond.code yX3_begin cX3_begin 1 none, Cond.fieldLink RX3 9 "FilledForOne$Kettle" "level" "I", Cond.fieldLink RX3 15 "FilledForOne$Kettle" "warmth" "I", Cond.fieldLink RX3 18 "FilledForOne$Kettle" "age" "I", Cond.fieldLink RX3 21 "FilledForOne$Kettle" "busyTill" "I", Cond.methodLink RX5 59 yX2_isOver, Cond.instanceMethod yX2_isOver, Cond.selects RX2 yX2_isOver yX2_isOver]
def wsX5_costAnew_r2 : List Cond := [Cond.code yX2_isOver cX2_isOver 1 (some .boolean), Cond.methodLink RX2 90 yX2_comersWith, Cond.instanceMethod yX2_comersWith, Cond.selects RX2 yX2_comersWith yX2_comersWith, Cond.code yX2_comersWith cX2_comersWith 4 (some .int), Cond.methodLink RX2 94 yX2_allFree, Cond.instanceMethod yX2_allFree, Cond.selects RX2 yX2_allFree yX2_allFree, Cond.code yX2_allFree cX2_allFree 2 (some .boolean), Cond.methodLink RX2 98 yX2_kettlesInUse, Cond.instanceMethod yX2_kettlesInUse, Cond.selects RX2 yX2_kettlesInUse yX2_kettlesInUse, Cond.code yX2_kettlesInUse cX2_kettlesInUse 1 (some .int), Cond.fieldLink RX2 18 "FilledForOne$Day" "settings" "[I", Cond.methodLink RX2 101 yX3_isFree, Cond.instanceMethod yX3_isFree, Cond.selects RX3 yX3_isFree yX3_isFree, Cond.code yX3_isFree cX3_isFree 2 (some .boolean), Cond.methodLink RX5 63 yX2_passMinute, Cond.instanceMethod yX2_passMinute, Cond.selects RX2 yX2_passMinute yX2_passMinute, Cond.code yX2_passMinute cX2_passMinute 2 none, Cond.fieldLink RX2 37 "FilledForOne$Day" "line" "[I", Cond.methodLink RX2 111 yX2_lineUp]
def wsX5_costAnew_r3 : List Cond := [Cond.instanceMethod yX2_lineUp, Cond.selects RX2 yX2_lineUp yX2_lineUp, Cond.code yX2_lineUp cX2_lineUp 2 none, Cond.fieldLink RX2 83 "FilledForOne$Comer" "minute" "I", Cond.methodLink RX2 114 yX2_loseImpatient, Cond.instanceMethod yX2_loseImpatient, Cond.selects RX2 yX2_loseImpatient yX2_loseImpatient, Cond.code yX2_loseImpatient cX2_loseImpatient 3 none, Cond.fieldLink RX2 87 "FilledForOne$Comer" "patience" "I", Cond.methodLink RX2 124 yX2_closeUp, Cond.instanceMethod yX2_closeUp, Cond.selects RX2 yX2_closeUp yX2_closeUp, Cond.code yX2_closeUp cX2_closeUp 3 none, Cond.methodLink RX2 117 yX2_serve, Cond.instanceMethod yX2_serve, Cond.selects RX2 yX2_serve yX2_serve, Cond.code yX2_serve cX2_serve 4 (some .boolean), Cond.fieldLink RX2 84 "FilledForOne$Comer" "wants" "I", Cond.fieldLink RX2 134 "FilledForOne$Kettle" "level" "I", Cond.fieldLink RX2 137 "FilledForOne$Comer" "servedAt" "I", Cond.methodLink RX2 130 yX2_firstReady, Cond.instanceMethod yX2_firstReady, Cond.selects RX2 yX2_firstReady yX2_firstReady, Cond.code yX2_firstReady cX2_firstReady 3 (some (.object "FilledForOne$Kettle"))]
def wsX5_costAnew_r4 : List Cond := [Cond.methodLink RX2 164 yX3_isReady, Cond.instanceMethod yX3_isReady, Cond.selects RX3 yX3_isReady yX3_isReady, Cond.code yX3_isReady cX3_isReady 3 (some .boolean), Cond.methodLink RX2 120 yX2_boil, Cond.instanceMethod yX2_boil, Cond.selects RX2 yX2_boil yX2_boil, Cond.code yX2_boil cX2_boil 5 none, Cond.fieldLink RX2 147 "FilledForOne$Comer" "kind" "I", Cond.fieldLink RX2 161 "FilledForOne$Day" "boils" "I", Cond.methodLink RX2 140 yX2_firstFree, Cond.instanceMethod yX2_firstFree, Cond.selects RX2 yX2_firstFree yX2_firstFree, Cond.code yX2_firstFree cX2_firstFree 2 (some (.object "FilledForOne$Kettle")), Cond.methodLink RX2 144 yX2_waitsForOwn, Cond.instanceMethod yX2_waitsForOwn, Cond.selects RX2 yX2_waitsForOwn yX2_waitsForOwn, Cond.code yX2_waitsForOwn cX2_waitsForOwn 3 (some .boolean), Cond.fieldLink RX2 168 "FilledForOne$Kettle" "putOnBy" "I", Cond.methodLink RX2 150 yX2_upTo, Cond.instanceMethod yX2_upTo, Cond.selects RX2 yX2_upTo yX2_upTo, Cond.code yX2_upTo cX2_upTo 4 (some .int), Cond.fieldLink RX2 177 "FilledForOne$Comer" "figure" "I"]
def wsX5_costAnew_r5 : List Cond := [Cond.methodLink RX2 183 Lib.Math.max.name, Cond.static Lib.Math.max.name, Cond.initialized "java/lang/Math", Cond.code Lib.Math.max.name Lib.Math.max.code 2 (some .int), Cond.methodLink RX2 189 Lib.Math.min.name, Cond.static Lib.Math.min.name, Cond.code Lib.Math.min.name Lib.Math.min.code 2 (some .int), Cond.methodLink RX2 174 yX2_wantsInLine, Cond.instanceMethod yX2_wantsInLine, Cond.selects RX2 yX2_wantsInLine yX2_wantsInLine, Cond.code yX2_wantsInLine cX2_wantsInLine 3 (some .int), Cond.methodLink RX2 180 yX2_wantsToCome, Cond.instanceMethod yX2_wantsToCome, Cond.selects RX2 yX2_wantsToCome yX2_wantsToCome, Cond.code yX2_wantsToCome cX2_wantsToCome 4 (some .int), Cond.methodLink RX2 154 yX3_fill, Cond.instanceMethod yX3_fill, Cond.selects RX3 yX3_fill yX3_fill, Cond.code yX3_fill cX3_fill 2 none, Cond.methodLink RX2 157 yX3_putOn, Cond.instanceMethod yX3_putOn, Cond.selects RX3 yX3_putOn yX3_putOn, Cond.code yX3_putOn cX3_putOn 4 none, Cond.fieldLink RX3 24 "FilledForOne$Kettle" "putOnBy" "I"]
def wsX5_costAnew_r6 : List Cond := [Cond.static yX6_heatingMinutes, Cond.initialized RX6, Cond.code yX6_heatingMinutes cX6_heatingMinutes 4 (some .int), Cond.methodLink RX2 127 yX2_coolDown, Cond.instanceMethod yX2_coolDown, Cond.selects RX2 yX2_coolDown yX2_coolDown, Cond.code yX2_coolDown cX2_coolDown 2 none, Cond.methodLink RX2 171 yX3_cool, Cond.instanceMethod yX3_cool, Cond.selects RX3 yX3_cool yX3_cool, Cond.code yX3_cool cX3_cool 2 none, Cond.methodLink RX3 31 Lib.Math.max.name, Cond.methodLink RX5 41 yX2_cost, Cond.instanceMethod yX2_cost, Cond.selects RX2 yX2_cost yX2_cost, Cond.code yX2_cost cX2_cost 1 (some .int), Cond.methodLink RX2 195 yX2_allWaited, Cond.instanceMethod yX2_allWaited, Cond.selects RX2 yX2_allWaited yX2_allWaited, Cond.code yX2_allWaited cX2_allWaited 3 (some .int), Cond.methodLink RX2 192 yX1_waited, Cond.instanceMethod yX1_waited, Cond.selects RX1 yX1_waited yX1_waited, Cond.initialized RX1]
def wsX5_costAnew_r7 : List Cond := [Cond.code yX1_waited cX1_waited 1 (some .int), Cond.fieldLink RX1 31 "FilledForOne$Comer" "state" "I", Cond.fieldLink RX1 34 "FilledForOne$Comer" "servedAt" "I", Cond.fieldLink RX1 22 "FilledForOne$Comer" "minute" "I", Cond.fieldLink RX1 28 "FilledForOne$Comer" "patience" "I", Cond.methodLink RX2 198 yX2_cupsLeft, Cond.instanceMethod yX2_cupsLeft, Cond.selects RX2 yX2_cupsLeft yX2_cupsLeft, Cond.code yX2_cupsLeft cX2_cupsLeft 3 (some .int)]
def wsX5_costAnew : List Cond := .code yX5_costAnew cX5_costAnew 2 (some .int) :: ((wsX5_costAnew_r1 ++ (wsX5_costAnew_r2 ++ (wsX5_costAnew_r3 ++ (wsX5_costAnew_r4 ++ (wsX5_costAnew_r5 ++ (wsX5_costAnew_r6 ++ wsX5_costAnew_r7)))))) ++ wsX50 ++ wsX20 ++ wsX10 ++ wsX30)
def wsX5_bestKind_r1 : List Cond := [Cond.fieldLink RX5 12 "FilledForOne$Mind" "day" "LFilledForOne$Day;", Cond.fieldLink RX5 44 "FilledForOne$Day" "comers" "[LFilledForOne$Comer;", Cond.fieldLink RX5 66 "FilledForOne$Comer" "kind" "I", Cond.constant RX5 71 (2147483647), Cond.fieldLink RX5 48 "FilledForOne$Comer" "state" "I", Cond.methodLink RX5 72 yX5_costAnew, Cond.instanceMethod yX5_costAnew, Cond.selects RX5 yX5_costAnew yX5_costAnew, Cond.initialized RX5, Cond.code yX5_costAnew cX5_costAnew 2 (some .int), Cond.methodLink RX5 56 yX2_begin, Cond.instanceMethod yX2_begin, Cond.selects RX2 yX2_begin yX2_begin, Cond.initialized RX2, Cond.code yX2_begin cX2_begin 2 none, Cond.fieldLink RX2 53 "FilledForOne$Day" "minute" "I", Cond.fieldLink RX2 50 "FilledForOne$Day" "lined" "I", Cond.fieldLink RX2 46 "FilledForOne$Day" "known" "I", Cond.fieldLink RX2 25 "FilledForOne$Day" "comers" "[LFilledForOne$Comer;", Cond.fieldLink RX2 63 "FilledForOne$Comer" "state" "I", Cond.fieldLink RX2 32 "FilledForOne$Day" "kettles" "[LFilledForOne$Kettle;", Cond.methodLink RX2 66 yX3_begin, Cond.instanceMethod yX3_begin, Cond.selects RX3 yX3_begin yX3_begin]
def wsX5_bestKind_r2 : List Cond := [Cond.initialized RX3, Cond.code yX3_begin cX3_begin 1 none, Cond.fieldLink RX3 9 "FilledForOne$Kettle" "level" "I", Cond.fieldLink RX3 15 "FilledForOne$Kettle" "warmth" "I", Cond.fieldLink RX3 18 "FilledForOne$Kettle" "age" "I", Cond.fieldLink RX3 21 "FilledForOne$Kettle" "busyTill" "I", Cond.methodLink RX5 59 yX2_isOver, Cond.instanceMethod yX2_isOver, Cond.selects RX2 yX2_isOver yX2_isOver, Cond.code yX2_isOver cX2_isOver 1 (some .boolean), Cond.methodLink RX2 90 yX2_comersWith, Cond.instanceMethod yX2_comersWith, Cond.selects RX2 yX2_comersWith yX2_comersWith, Cond.code yX2_comersWith cX2_comersWith 4 (some .int), Cond.methodLink RX2 94 yX2_allFree, Cond.instanceMethod yX2_allFree, Cond.selects RX2 yX2_allFree yX2_allFree, Cond.code yX2_allFree cX2_allFree 2 (some .boolean), Cond.methodLink RX2 98 yX2_kettlesInUse, Cond.instanceMethod yX2_kettlesInUse, Cond.selects RX2 yX2_kettlesInUse yX2_kettlesInUse, Cond.code yX2_kettlesInUse cX2_kettlesInUse 1 (some .int), Cond.fieldLink RX2 18 "FilledForOne$Day" "settings" "[I", Cond.methodLink RX2 101 yX3_isFree]
def wsX5_bestKind_r3 : List Cond := [Cond.instanceMethod yX3_isFree, Cond.selects RX3 yX3_isFree yX3_isFree, Cond.code yX3_isFree cX3_isFree 2 (some .boolean), Cond.methodLink RX5 63 yX2_passMinute, Cond.instanceMethod yX2_passMinute, Cond.selects RX2 yX2_passMinute yX2_passMinute, Cond.code yX2_passMinute cX2_passMinute 2 none, Cond.fieldLink RX2 37 "FilledForOne$Day" "line" "[I", Cond.methodLink RX2 111 yX2_lineUp, Cond.instanceMethod yX2_lineUp, Cond.selects RX2 yX2_lineUp yX2_lineUp, Cond.code yX2_lineUp cX2_lineUp 2 none, Cond.fieldLink RX2 83 "FilledForOne$Comer" "minute" "I", Cond.methodLink RX2 114 yX2_loseImpatient, Cond.instanceMethod yX2_loseImpatient, Cond.selects RX2 yX2_loseImpatient yX2_loseImpatient, Cond.code yX2_loseImpatient cX2_loseImpatient 3 none, Cond.fieldLink RX2 87 "FilledForOne$Comer" "patience" "I", Cond.methodLink RX2 124 yX2_closeUp, Cond.instanceMethod yX2_closeUp, Cond.selects RX2 yX2_closeUp yX2_closeUp, Cond.code yX2_closeUp cX2_closeUp 3 none, Cond.methodLink RX2 117 yX2_serve, Cond.instanceMethod yX2_serve]
def wsX5_bestKind_r4 : List Cond := [Cond.selects RX2 yX2_serve yX2_serve, Cond.code yX2_serve cX2_serve 4 (some .boolean), Cond.fieldLink RX2 84 "FilledForOne$Comer" "wants" "I", Cond.fieldLink RX2 134 "FilledForOne$Kettle" "level" "I", Cond.fieldLink RX2 137 "FilledForOne$Comer" "servedAt" "I", Cond.methodLink RX2 130 yX2_firstReady, Cond.instanceMethod yX2_firstReady, Cond.selects RX2 yX2_firstReady yX2_firstReady, Cond.code yX2_firstReady cX2_firstReady 3 (some (.object "FilledForOne$Kettle")), Cond.methodLink RX2 164 yX3_isReady, Cond.instanceMethod yX3_isReady, Cond.selects RX3 yX3_isReady yX3_isReady, Cond.code yX3_isReady cX3_isReady 3 (some .boolean), Cond.methodLink RX2 120 yX2_boil, Cond.instanceMethod yX2_boil, Cond.selects RX2 yX2_boil yX2_boil, Cond.code yX2_boil cX2_boil 5 none, Cond.fieldLink RX2 147 "FilledForOne$Comer" "kind" "I", Cond.fieldLink RX2 161 "FilledForOne$Day" "boils" "I", Cond.methodLink RX2 140 yX2_firstFree, Cond.instanceMethod yX2_firstFree, Cond.selects RX2 yX2_firstFree yX2_firstFree, Cond.code yX2_firstFree cX2_firstFree 2 (some (.object "FilledForOne$Kettle")), Cond.methodLink RX2 144 yX2_waitsForOwn]
def wsX5_bestKind_r5 : List Cond := [Cond.instanceMethod yX2_waitsForOwn, Cond.selects RX2 yX2_waitsForOwn yX2_waitsForOwn, Cond.code yX2_waitsForOwn cX2_waitsForOwn 3 (some .boolean), Cond.fieldLink RX2 168 "FilledForOne$Kettle" "putOnBy" "I", Cond.methodLink RX2 150 yX2_upTo, Cond.instanceMethod yX2_upTo, Cond.selects RX2 yX2_upTo yX2_upTo, Cond.code yX2_upTo cX2_upTo 4 (some .int), Cond.fieldLink RX2 177 "FilledForOne$Comer" "figure" "I", Cond.methodLink RX2 183 Lib.Math.max.name, Cond.static Lib.Math.max.name, Cond.initialized "java/lang/Math", Cond.code Lib.Math.max.name Lib.Math.max.code 2 (some .int), Cond.methodLink RX2 189 Lib.Math.min.name, Cond.static Lib.Math.min.name, Cond.code Lib.Math.min.name Lib.Math.min.code 2 (some .int), Cond.methodLink RX2 174 yX2_wantsInLine, Cond.instanceMethod yX2_wantsInLine, Cond.selects RX2 yX2_wantsInLine yX2_wantsInLine, Cond.code yX2_wantsInLine cX2_wantsInLine 3 (some .int), Cond.methodLink RX2 180 yX2_wantsToCome, Cond.instanceMethod yX2_wantsToCome, Cond.selects RX2 yX2_wantsToCome yX2_wantsToCome, Cond.code yX2_wantsToCome cX2_wantsToCome 4 (some .int)]
def wsX5_bestKind_r6 : List Cond := [Cond.methodLink RX2 154 yX3_fill, Cond.instanceMethod yX3_fill, Cond.selects RX3 yX3_fill yX3_fill, Cond.code yX3_fill cX3_fill 2 none, Cond.methodLink RX2 157 yX3_putOn, Cond.instanceMethod yX3_putOn, Cond.selects RX3 yX3_putOn yX3_putOn, Cond.code yX3_putOn cX3_putOn 4 none, Cond.fieldLink RX3 24 "FilledForOne$Kettle" "putOnBy" "I", Cond.static yX6_heatingMinutes, Cond.initialized RX6, Cond.code yX6_heatingMinutes cX6_heatingMinutes 4 (some .int), Cond.methodLink RX2 127 yX2_coolDown, Cond.instanceMethod yX2_coolDown, Cond.selects RX2 yX2_coolDown yX2_coolDown, Cond.code yX2_coolDown cX2_coolDown 2 none, Cond.methodLink RX2 171 yX3_cool, Cond.instanceMethod yX3_cool, Cond.selects RX3 yX3_cool yX3_cool, Cond.code yX3_cool cX3_cool 2 none, Cond.methodLink RX3 31 Lib.Math.max.name, Cond.methodLink RX5 41 yX2_cost, Cond.instanceMethod yX2_cost, Cond.selects RX2 yX2_cost yX2_cost]
def wsX5_bestKind_r7 : List Cond := [Cond.code yX2_cost cX2_cost 1 (some .int), Cond.methodLink RX2 195 yX2_allWaited, Cond.instanceMethod yX2_allWaited, Cond.selects RX2 yX2_allWaited yX2_allWaited, Cond.code yX2_allWaited cX2_allWaited 3 (some .int), Cond.methodLink RX2 192 yX1_waited, Cond.instanceMethod yX1_waited, Cond.selects RX1 yX1_waited yX1_waited, Cond.initialized RX1, Cond.code yX1_waited cX1_waited 1 (some .int), Cond.fieldLink RX1 31 "FilledForOne$Comer" "state" "I", Cond.fieldLink RX1 34 "FilledForOne$Comer" "servedAt" "I", Cond.fieldLink RX1 22 "FilledForOne$Comer" "minute" "I", Cond.fieldLink RX1 28 "FilledForOne$Comer" "patience" "I", Cond.methodLink RX2 198 yX2_cupsLeft, Cond.instanceMethod yX2_cupsLeft, Cond.selects RX2 yX2_cupsLeft yX2_cupsLeft, Cond.code yX2_cupsLeft cX2_cupsLeft 3 (some .int), Cond.methodLink RX5 75 yX1_waited]
def wsX5_bestKind : List Cond := .code yX5_bestKind cX5_bestKind 9 (some .int) :: ((wsX5_bestKind_r1 ++ (wsX5_bestKind_r2 ++ (wsX5_bestKind_r3 ++ (wsX5_bestKind_r4 ++ (wsX5_bestKind_r5 ++ (wsX5_bestKind_r6 ++ wsX5_bestKind_r7)))))) ++ wsX50 ++ wsX20 ++ wsX10 ++ wsX30)
def wsX5_playRounds_r1 : List Cond := [Cond.fieldLink RX5 12 "FilledForOne$Mind" "day" "LFilledForOne$Day;", Cond.fieldLink RX5 78 "FilledForOne$Day" "known" "I", Cond.fieldLink RX5 44 "FilledForOne$Day" "comers" "[LFilledForOne$Comer;", Cond.fieldLink RX5 66 "FilledForOne$Comer" "kind" "I", Cond.methodLink RX5 81 yX5_bestKind, Cond.instanceMethod yX5_bestKind, Cond.selects RX5 yX5_bestKind yX5_bestKind, Cond.initialized RX5, Cond.code yX5_bestKind cX5_bestKind 9 (some .int), Cond.constant RX5 71 (2147483647), Cond.fieldLink RX5 48 "FilledForOne$Comer" "state" "I", Cond.methodLink RX5 72 yX5_costAnew, Cond.instanceMethod yX5_costAnew, Cond.selects RX5 yX5_costAnew yX5_costAnew, Cond.code yX5_costAnew cX5_costAnew 2 (some .int), Cond.methodLink RX5 56 yX2_begin, Cond.instanceMethod yX2_begin, Cond.selects RX2 yX2_begin yX2_begin, Cond.initialized RX2, Cond.code yX2_begin cX2_begin 2 none, Cond.fieldLink RX2 53 "FilledForOne$Day" "minute" "I", Cond.fieldLink RX2 50 "FilledForOne$Day" "lined" "I", Cond.fieldLink RX2 46 "FilledForOne$Day" "known" "I", Cond.fieldLink RX2 25 "FilledForOne$Day" "comers" "[LFilledForOne$Comer;"]
def wsX5_playRounds_r2 : List Cond := [Cond.fieldLink RX2 63 "FilledForOne$Comer" "state" "I", Cond.fieldLink RX2 32 "FilledForOne$Day" "kettles" "[LFilledForOne$Kettle;", Cond.methodLink RX2 66 yX3_begin, Cond.instanceMethod yX3_begin, Cond.selects RX3 yX3_begin yX3_begin, Cond.initialized RX3, Cond.code yX3_begin cX3_begin 1 none, Cond.fieldLink RX3 9 "FilledForOne$Kettle" "level" "I", Cond.fieldLink RX3 15 "FilledForOne$Kettle" "warmth" "I", Cond.fieldLink RX3 18 "FilledForOne$Kettle" "age" "I", Cond.fieldLink RX3 21 "FilledForOne$Kettle" "busyTill" "I", Cond.methodLink RX5 59 yX2_isOver, Cond.instanceMethod yX2_isOver, Cond.selects RX2 yX2_isOver yX2_isOver, Cond.code yX2_isOver cX2_isOver 1 (some .boolean), Cond.methodLink RX2 90 yX2_comersWith, Cond.instanceMethod yX2_comersWith, Cond.selects RX2 yX2_comersWith yX2_comersWith, Cond.code yX2_comersWith cX2_comersWith 4 (some .int), Cond.methodLink RX2 94 yX2_allFree, Cond.instanceMethod yX2_allFree, Cond.selects RX2 yX2_allFree yX2_allFree, Cond.code yX2_allFree cX2_allFree 2 (some .boolean), Cond.methodLink RX2 98 yX2_kettlesInUse]
def wsX5_playRounds_r3 : List Cond := [Cond.instanceMethod yX2_kettlesInUse, Cond.selects RX2 yX2_kettlesInUse yX2_kettlesInUse, Cond.code yX2_kettlesInUse cX2_kettlesInUse 1 (some .int), Cond.fieldLink RX2 18 "FilledForOne$Day" "settings" "[I", Cond.methodLink RX2 101 yX3_isFree, Cond.instanceMethod yX3_isFree, Cond.selects RX3 yX3_isFree yX3_isFree, Cond.code yX3_isFree cX3_isFree 2 (some .boolean), Cond.methodLink RX5 63 yX2_passMinute, Cond.instanceMethod yX2_passMinute, Cond.selects RX2 yX2_passMinute yX2_passMinute, Cond.code yX2_passMinute cX2_passMinute 2 none, Cond.fieldLink RX2 37 "FilledForOne$Day" "line" "[I", Cond.methodLink RX2 111 yX2_lineUp, Cond.instanceMethod yX2_lineUp, Cond.selects RX2 yX2_lineUp yX2_lineUp, Cond.code yX2_lineUp cX2_lineUp 2 none, Cond.fieldLink RX2 83 "FilledForOne$Comer" "minute" "I", Cond.methodLink RX2 114 yX2_loseImpatient, Cond.instanceMethod yX2_loseImpatient, Cond.selects RX2 yX2_loseImpatient yX2_loseImpatient, Cond.code yX2_loseImpatient cX2_loseImpatient 3 none, Cond.fieldLink RX2 87 "FilledForOne$Comer" "patience" "I", Cond.methodLink RX2 124 yX2_closeUp]
def wsX5_playRounds_r4 : List Cond := [Cond.instanceMethod yX2_closeUp, Cond.selects RX2 yX2_closeUp yX2_closeUp, Cond.code yX2_closeUp cX2_closeUp 3 none, Cond.methodLink RX2 117 yX2_serve, Cond.instanceMethod yX2_serve, Cond.selects RX2 yX2_serve yX2_serve, Cond.code yX2_serve cX2_serve 4 (some .boolean), Cond.fieldLink RX2 84 "FilledForOne$Comer" "wants" "I", Cond.fieldLink RX2 134 "FilledForOne$Kettle" "level" "I", Cond.fieldLink RX2 137 "FilledForOne$Comer" "servedAt" "I", Cond.methodLink RX2 130 yX2_firstReady, Cond.instanceMethod yX2_firstReady, Cond.selects RX2 yX2_firstReady yX2_firstReady, Cond.code yX2_firstReady cX2_firstReady 3 (some (.object "FilledForOne$Kettle")), Cond.methodLink RX2 164 yX3_isReady, Cond.instanceMethod yX3_isReady, Cond.selects RX3 yX3_isReady yX3_isReady, Cond.code yX3_isReady cX3_isReady 3 (some .boolean), Cond.methodLink RX2 120 yX2_boil, Cond.instanceMethod yX2_boil, Cond.selects RX2 yX2_boil yX2_boil, Cond.code yX2_boil cX2_boil 5 none, Cond.fieldLink RX2 147 "FilledForOne$Comer" "kind" "I", Cond.fieldLink RX2 161 "FilledForOne$Day" "boils" "I"]
def wsX5_playRounds_r5 : List Cond := [Cond.methodLink RX2 140 yX2_firstFree, Cond.instanceMethod yX2_firstFree, Cond.selects RX2 yX2_firstFree yX2_firstFree, Cond.code yX2_firstFree cX2_firstFree 2 (some (.object "FilledForOne$Kettle")), Cond.methodLink RX2 144 yX2_waitsForOwn, Cond.instanceMethod yX2_waitsForOwn, Cond.selects RX2 yX2_waitsForOwn yX2_waitsForOwn, Cond.code yX2_waitsForOwn cX2_waitsForOwn 3 (some .boolean), Cond.fieldLink RX2 168 "FilledForOne$Kettle" "putOnBy" "I", Cond.methodLink RX2 150 yX2_upTo, Cond.instanceMethod yX2_upTo, Cond.selects RX2 yX2_upTo yX2_upTo, Cond.code yX2_upTo cX2_upTo 4 (some .int), Cond.fieldLink RX2 177 "FilledForOne$Comer" "figure" "I", Cond.methodLink RX2 183 Lib.Math.max.name, Cond.static Lib.Math.max.name, Cond.initialized "java/lang/Math", Cond.code Lib.Math.max.name Lib.Math.max.code 2 (some .int), Cond.methodLink RX2 189 Lib.Math.min.name, Cond.static Lib.Math.min.name, Cond.code Lib.Math.min.name Lib.Math.min.code 2 (some .int), Cond.methodLink RX2 174 yX2_wantsInLine, Cond.instanceMethod yX2_wantsInLine, Cond.selects RX2 yX2_wantsInLine yX2_wantsInLine]
def wsX5_playRounds_r6 : List Cond := [Cond.code yX2_wantsInLine cX2_wantsInLine 3 (some .int), Cond.methodLink RX2 180 yX2_wantsToCome, Cond.instanceMethod yX2_wantsToCome, Cond.selects RX2 yX2_wantsToCome yX2_wantsToCome, Cond.code yX2_wantsToCome cX2_wantsToCome 4 (some .int), Cond.methodLink RX2 154 yX3_fill, Cond.instanceMethod yX3_fill, Cond.selects RX3 yX3_fill yX3_fill, Cond.code yX3_fill cX3_fill 2 none, Cond.methodLink RX2 157 yX3_putOn, Cond.instanceMethod yX3_putOn, Cond.selects RX3 yX3_putOn yX3_putOn, Cond.code yX3_putOn cX3_putOn 4 none, Cond.fieldLink RX3 24 "FilledForOne$Kettle" "putOnBy" "I", Cond.static yX6_heatingMinutes, Cond.initialized RX6, Cond.code yX6_heatingMinutes cX6_heatingMinutes 4 (some .int), Cond.methodLink RX2 127 yX2_coolDown, Cond.instanceMethod yX2_coolDown, Cond.selects RX2 yX2_coolDown yX2_coolDown, Cond.code yX2_coolDown cX2_coolDown 2 none, Cond.methodLink RX2 171 yX3_cool, Cond.instanceMethod yX3_cool, Cond.selects RX3 yX3_cool yX3_cool]
def wsX5_playRounds_r7 : List Cond := [Cond.code yX3_cool cX3_cool 2 none, Cond.methodLink RX3 31 Lib.Math.max.name, Cond.methodLink RX5 41 yX2_cost, Cond.instanceMethod yX2_cost, Cond.selects RX2 yX2_cost yX2_cost, Cond.code yX2_cost cX2_cost 1 (some .int), Cond.methodLink RX2 195 yX2_allWaited, Cond.instanceMethod yX2_allWaited, Cond.selects RX2 yX2_allWaited yX2_allWaited, Cond.code yX2_allWaited cX2_allWaited 3 (some .int), Cond.methodLink RX2 192 yX1_waited, Cond.instanceMethod yX1_waited, Cond.selects RX1 yX1_waited yX1_waited, Cond.initialized RX1, Cond.code yX1_waited cX1_waited 1 (some .int), Cond.fieldLink RX1 31 "FilledForOne$Comer" "state" "I", Cond.fieldLink RX1 34 "FilledForOne$Comer" "servedAt" "I", Cond.fieldLink RX1 22 "FilledForOne$Comer" "minute" "I", Cond.fieldLink RX1 28 "FilledForOne$Comer" "patience" "I", Cond.methodLink RX2 198 yX2_cupsLeft, Cond.instanceMethod yX2_cupsLeft, Cond.selects RX2 yX2_cupsLeft yX2_cupsLeft, Cond.code yX2_cupsLeft cX2_cupsLeft 3 (some .int), Cond.methodLink RX5 75 yX1_waited]
def wsX5_playRounds : List Cond := .code yX5_playRounds cX5_playRounds 5 (some .int) :: ((wsX5_playRounds_r1 ++ (wsX5_playRounds_r2 ++ (wsX5_playRounds_r3 ++ (wsX5_playRounds_r4 ++ (wsX5_playRounds_r5 ++ (wsX5_playRounds_r6 ++ wsX5_playRounds_r7)))))) ++ wsX50 ++ wsX20 ++ wsX10 ++ wsX30)
def wsX5_kindDigits : List Cond := .code yX5_kindDigits cX5_kindDigits 3 (some .int) :: ([.fieldLink RX5 12 "FilledForOne$Mind" "day" "LFilledForOne$Day;", .fieldLink RX5 78 "FilledForOne$Day" "known" "I", .fieldLink RX5 44 "FilledForOne$Day" "comers" "[LFilledForOne$Comer;", .fieldLink RX5 66 "FilledForOne$Comer" "kind" "I"] ++ wsX50 ++ wsX20 ++ wsX10)
def wsX5_lostByKinds_r1 : List Cond := [Cond.constant RX5 71 (2147483647), Cond.fieldLink RX5 12 "FilledForOne$Mind" "day" "LFilledForOne$Day;", Cond.fieldLink RX5 78 "FilledForOne$Day" "known" "I", Cond.fieldLink RX5 44 "FilledForOne$Day" "comers" "[LFilledForOne$Comer;", Cond.fieldLink RX5 66 "FilledForOne$Comer" "kind" "I", Cond.methodLink RX5 85 Lib.Math.min.name, Cond.static Lib.Math.min.name, Cond.initialized "java/lang/Math", Cond.code Lib.Math.min.name Lib.Math.min.code 2 (some .int), Cond.methodLink RX5 72 yX5_costAnew, Cond.instanceMethod yX5_costAnew, Cond.selects RX5 yX5_costAnew yX5_costAnew, Cond.initialized RX5, Cond.code yX5_costAnew cX5_costAnew 2 (some .int), Cond.methodLink RX5 56 yX2_begin, Cond.instanceMethod yX2_begin, Cond.selects RX2 yX2_begin yX2_begin, Cond.initialized RX2, Cond.code yX2_begin cX2_begin 2 none, Cond.fieldLink RX2 53 "FilledForOne$Day" "minute" "I", Cond.fieldLink RX2 50 "FilledForOne$Day" "lined" "I", Cond.fieldLink RX2 46 "FilledForOne$Day" "known" "I", Cond.fieldLink RX2 25 "FilledForOne$Day" "comers" "[LFilledForOne$Comer;", Cond.fieldLink RX2 63 "FilledForOne$Comer" "state" "I"]
def wsX5_lostByKinds_r2 : List Cond := [Cond.fieldLink RX2 32 "FilledForOne$Day" "kettles" "[LFilledForOne$Kettle;", Cond.methodLink RX2 66 yX3_begin, Cond.instanceMethod yX3_begin, Cond.selects RX3 yX3_begin yX3_begin, Cond.initialized RX3, Cond.code yX3_begin cX3_begin 1 none, Cond.fieldLink RX3 9 "FilledForOne$Kettle" "level" "I", Cond.fieldLink RX3 15 "FilledForOne$Kettle" "warmth" "I", Cond.fieldLink RX3 18 "FilledForOne$Kettle" "age" "I", Cond.fieldLink RX3 21 "FilledForOne$Kettle" "busyTill" "I", Cond.methodLink RX5 59 yX2_isOver, Cond.instanceMethod yX2_isOver, Cond.selects RX2 yX2_isOver yX2_isOver, Cond.code yX2_isOver cX2_isOver 1 (some .boolean), Cond.methodLink RX2 90 yX2_comersWith, Cond.instanceMethod yX2_comersWith, Cond.selects RX2 yX2_comersWith yX2_comersWith, Cond.code yX2_comersWith cX2_comersWith 4 (some .int), Cond.methodLink RX2 94 yX2_allFree, Cond.instanceMethod yX2_allFree, Cond.selects RX2 yX2_allFree yX2_allFree, Cond.code yX2_allFree cX2_allFree 2 (some .boolean), Cond.methodLink RX2 98 yX2_kettlesInUse, Cond.instanceMethod yX2_kettlesInUse]
def wsX5_lostByKinds_r3 : List Cond := [Cond.selects RX2 yX2_kettlesInUse yX2_kettlesInUse, Cond.code yX2_kettlesInUse cX2_kettlesInUse 1 (some .int), Cond.fieldLink RX2 18 "FilledForOne$Day" "settings" "[I", Cond.methodLink RX2 101 yX3_isFree, Cond.instanceMethod yX3_isFree, Cond.selects RX3 yX3_isFree yX3_isFree, Cond.code yX3_isFree cX3_isFree 2 (some .boolean), Cond.methodLink RX5 63 yX2_passMinute, Cond.instanceMethod yX2_passMinute, Cond.selects RX2 yX2_passMinute yX2_passMinute, Cond.code yX2_passMinute cX2_passMinute 2 none, Cond.fieldLink RX2 37 "FilledForOne$Day" "line" "[I", Cond.methodLink RX2 111 yX2_lineUp, Cond.instanceMethod yX2_lineUp, Cond.selects RX2 yX2_lineUp yX2_lineUp, Cond.code yX2_lineUp cX2_lineUp 2 none, Cond.fieldLink RX2 83 "FilledForOne$Comer" "minute" "I", Cond.methodLink RX2 114 yX2_loseImpatient, Cond.instanceMethod yX2_loseImpatient, Cond.selects RX2 yX2_loseImpatient yX2_loseImpatient, Cond.code yX2_loseImpatient cX2_loseImpatient 3 none, Cond.fieldLink RX2 87 "FilledForOne$Comer" "patience" "I", Cond.methodLink RX2 124 yX2_closeUp, Cond.instanceMethod yX2_closeUp]
def wsX5_lostByKinds_r4 : List Cond := [Cond.selects RX2 yX2_closeUp yX2_closeUp, Cond.code yX2_closeUp cX2_closeUp 3 none, Cond.methodLink RX2 117 yX2_serve, Cond.instanceMethod yX2_serve, Cond.selects RX2 yX2_serve yX2_serve, Cond.code yX2_serve cX2_serve 4 (some .boolean), Cond.fieldLink RX2 84 "FilledForOne$Comer" "wants" "I", Cond.fieldLink RX2 134 "FilledForOne$Kettle" "level" "I", Cond.fieldLink RX2 137 "FilledForOne$Comer" "servedAt" "I", Cond.methodLink RX2 130 yX2_firstReady, Cond.instanceMethod yX2_firstReady, Cond.selects RX2 yX2_firstReady yX2_firstReady, Cond.code yX2_firstReady cX2_firstReady 3 (some (.object "FilledForOne$Kettle")), Cond.methodLink RX2 164 yX3_isReady, Cond.instanceMethod yX3_isReady, Cond.selects RX3 yX3_isReady yX3_isReady, Cond.code yX3_isReady cX3_isReady 3 (some .boolean), Cond.methodLink RX2 120 yX2_boil, Cond.instanceMethod yX2_boil, Cond.selects RX2 yX2_boil yX2_boil, Cond.code yX2_boil cX2_boil 5 none, Cond.fieldLink RX2 147 "FilledForOne$Comer" "kind" "I", Cond.fieldLink RX2 161 "FilledForOne$Day" "boils" "I", Cond.methodLink RX2 140 yX2_firstFree]
def wsX5_lostByKinds_r5 : List Cond := [Cond.instanceMethod yX2_firstFree, Cond.selects RX2 yX2_firstFree yX2_firstFree, Cond.code yX2_firstFree cX2_firstFree 2 (some (.object "FilledForOne$Kettle")), Cond.methodLink RX2 144 yX2_waitsForOwn, Cond.instanceMethod yX2_waitsForOwn, Cond.selects RX2 yX2_waitsForOwn yX2_waitsForOwn, Cond.code yX2_waitsForOwn cX2_waitsForOwn 3 (some .boolean), Cond.fieldLink RX2 168 "FilledForOne$Kettle" "putOnBy" "I", Cond.methodLink RX2 150 yX2_upTo, Cond.instanceMethod yX2_upTo, Cond.selects RX2 yX2_upTo yX2_upTo, Cond.code yX2_upTo cX2_upTo 4 (some .int), Cond.fieldLink RX2 177 "FilledForOne$Comer" "figure" "I", Cond.methodLink RX2 183 Lib.Math.max.name, Cond.static Lib.Math.max.name, Cond.code Lib.Math.max.name Lib.Math.max.code 2 (some .int), Cond.methodLink RX2 189 Lib.Math.min.name, Cond.methodLink RX2 174 yX2_wantsInLine, Cond.instanceMethod yX2_wantsInLine, Cond.selects RX2 yX2_wantsInLine yX2_wantsInLine, Cond.code yX2_wantsInLine cX2_wantsInLine 3 (some .int), Cond.methodLink RX2 180 yX2_wantsToCome, Cond.instanceMethod yX2_wantsToCome, Cond.selects RX2 yX2_wantsToCome yX2_wantsToCome]
def wsX5_lostByKinds_r6 : List Cond := [Cond.code yX2_wantsToCome cX2_wantsToCome 4 (some .int), Cond.methodLink RX2 154 yX3_fill, Cond.instanceMethod yX3_fill, Cond.selects RX3 yX3_fill yX3_fill, Cond.code yX3_fill cX3_fill 2 none, Cond.methodLink RX2 157 yX3_putOn, Cond.instanceMethod yX3_putOn, Cond.selects RX3 yX3_putOn yX3_putOn, Cond.code yX3_putOn cX3_putOn 4 none, Cond.fieldLink RX3 24 "FilledForOne$Kettle" "putOnBy" "I", Cond.static yX6_heatingMinutes, Cond.initialized RX6, Cond.code yX6_heatingMinutes cX6_heatingMinutes 4 (some .int), Cond.methodLink RX2 127 yX2_coolDown, Cond.instanceMethod yX2_coolDown, Cond.selects RX2 yX2_coolDown yX2_coolDown, Cond.code yX2_coolDown cX2_coolDown 2 none, Cond.methodLink RX2 171 yX3_cool, Cond.instanceMethod yX3_cool, Cond.selects RX3 yX3_cool yX3_cool, Cond.code yX3_cool cX3_cool 2 none, Cond.methodLink RX3 31 Lib.Math.max.name, Cond.methodLink RX5 41 yX2_cost, Cond.instanceMethod yX2_cost]
def wsX5_lostByKinds_r7 : List Cond := [Cond.selects RX2 yX2_cost yX2_cost, Cond.code yX2_cost cX2_cost 1 (some .int), Cond.methodLink RX2 195 yX2_allWaited, Cond.instanceMethod yX2_allWaited, Cond.selects RX2 yX2_allWaited yX2_allWaited, Cond.code yX2_allWaited cX2_allWaited 3 (some .int), Cond.methodLink RX2 192 yX1_waited, Cond.instanceMethod yX1_waited, Cond.selects RX1 yX1_waited yX1_waited, Cond.initialized RX1, Cond.code yX1_waited cX1_waited 1 (some .int), Cond.fieldLink RX1 31 "FilledForOne$Comer" "state" "I", Cond.fieldLink RX1 34 "FilledForOne$Comer" "servedAt" "I", Cond.fieldLink RX1 22 "FilledForOne$Comer" "minute" "I", Cond.fieldLink RX1 28 "FilledForOne$Comer" "patience" "I", Cond.methodLink RX2 198 yX2_cupsLeft, Cond.instanceMethod yX2_cupsLeft, Cond.selects RX2 yX2_cupsLeft yX2_cupsLeft, Cond.code yX2_cupsLeft cX2_cupsLeft 3 (some .int)]
def wsX5_lostByKinds : List Cond := .code yX5_lostByKinds cX5_lostByKinds 5 (some .int) :: ((wsX5_lostByKinds_r1 ++ (wsX5_lostByKinds_r2 ++ (wsX5_lostByKinds_r3 ++ (wsX5_lostByKinds_r4 ++ (wsX5_lostByKinds_r5 ++ (wsX5_lostByKinds_r6 ++ wsX5_lostByKinds_r7)))))) ++ wsX50 ++ wsX20 ++ wsX10 ++ wsX30)
def wsX5_bestMark_r1 : List Cond := [Cond.constant RX5 71 (2147483647), Cond.fieldLink RX5 12 "FilledForOne$Mind" "day" "LFilledForOne$Day;", Cond.fieldLink RX5 91 "FilledForOne$Day" "settings" "[I", Cond.methodLink RX5 72 yX5_costAnew, Cond.instanceMethod yX5_costAnew, Cond.selects RX5 yX5_costAnew yX5_costAnew, Cond.initialized RX5, Cond.code yX5_costAnew cX5_costAnew 2 (some .int), Cond.methodLink RX5 56 yX2_begin, Cond.instanceMethod yX2_begin, Cond.selects RX2 yX2_begin yX2_begin, Cond.initialized RX2, Cond.code yX2_begin cX2_begin 2 none, Cond.fieldLink RX2 53 "FilledForOne$Day" "minute" "I", Cond.fieldLink RX2 50 "FilledForOne$Day" "lined" "I", Cond.fieldLink RX2 46 "FilledForOne$Day" "known" "I", Cond.fieldLink RX2 25 "FilledForOne$Day" "comers" "[LFilledForOne$Comer;", Cond.fieldLink RX2 63 "FilledForOne$Comer" "state" "I", Cond.fieldLink RX2 32 "FilledForOne$Day" "kettles" "[LFilledForOne$Kettle;", Cond.methodLink RX2 66 yX3_begin, Cond.instanceMethod yX3_begin, Cond.selects RX3 yX3_begin yX3_begin, Cond.initialized RX3, Cond.code yX3_begin cX3_begin 1 none]
def wsX5_bestMark_r2 : List Cond := [Cond.fieldLink RX3 9 "FilledForOne$Kettle" "level" "I", Cond.fieldLink RX3 15 "FilledForOne$Kettle" "warmth" "I", Cond.fieldLink RX3 18 "FilledForOne$Kettle" "age" "I", Cond.fieldLink RX3 21 "FilledForOne$Kettle" "busyTill" "I", Cond.methodLink RX5 59 yX2_isOver, Cond.instanceMethod yX2_isOver, Cond.selects RX2 yX2_isOver yX2_isOver, Cond.code yX2_isOver cX2_isOver 1 (some .boolean), Cond.methodLink RX2 90 yX2_comersWith, Cond.instanceMethod yX2_comersWith, Cond.selects RX2 yX2_comersWith yX2_comersWith, Cond.code yX2_comersWith cX2_comersWith 4 (some .int), Cond.methodLink RX2 94 yX2_allFree, Cond.instanceMethod yX2_allFree, Cond.selects RX2 yX2_allFree yX2_allFree, Cond.code yX2_allFree cX2_allFree 2 (some .boolean), Cond.methodLink RX2 98 yX2_kettlesInUse, Cond.instanceMethod yX2_kettlesInUse, Cond.selects RX2 yX2_kettlesInUse yX2_kettlesInUse, Cond.code yX2_kettlesInUse cX2_kettlesInUse 1 (some .int), Cond.fieldLink RX2 18 "FilledForOne$Day" "settings" "[I", Cond.methodLink RX2 101 yX3_isFree, Cond.instanceMethod yX3_isFree, Cond.selects RX3 yX3_isFree yX3_isFree]
def wsX5_bestMark_r3 : List Cond := [Cond.code yX3_isFree cX3_isFree 2 (some .boolean), Cond.methodLink RX5 63 yX2_passMinute, Cond.instanceMethod yX2_passMinute, Cond.selects RX2 yX2_passMinute yX2_passMinute, Cond.code yX2_passMinute cX2_passMinute 2 none, Cond.fieldLink RX2 37 "FilledForOne$Day" "line" "[I", Cond.methodLink RX2 111 yX2_lineUp, Cond.instanceMethod yX2_lineUp, Cond.selects RX2 yX2_lineUp yX2_lineUp, Cond.code yX2_lineUp cX2_lineUp 2 none, Cond.fieldLink RX2 83 "FilledForOne$Comer" "minute" "I", Cond.methodLink RX2 114 yX2_loseImpatient, Cond.instanceMethod yX2_loseImpatient, Cond.selects RX2 yX2_loseImpatient yX2_loseImpatient, Cond.code yX2_loseImpatient cX2_loseImpatient 3 none, Cond.fieldLink RX2 87 "FilledForOne$Comer" "patience" "I", Cond.methodLink RX2 124 yX2_closeUp, Cond.instanceMethod yX2_closeUp, Cond.selects RX2 yX2_closeUp yX2_closeUp, Cond.code yX2_closeUp cX2_closeUp 3 none, Cond.methodLink RX2 117 yX2_serve, Cond.instanceMethod yX2_serve, Cond.selects RX2 yX2_serve yX2_serve, Cond.code yX2_serve cX2_serve 4 (some .boolean)]
def wsX5_bestMark_r4 : List Cond := [Cond.fieldLink RX2 84 "FilledForOne$Comer" "wants" "I", Cond.fieldLink RX2 134 "FilledForOne$Kettle" "level" "I", Cond.fieldLink RX2 137 "FilledForOne$Comer" "servedAt" "I", Cond.methodLink RX2 130 yX2_firstReady, Cond.instanceMethod yX2_firstReady, Cond.selects RX2 yX2_firstReady yX2_firstReady, Cond.code yX2_firstReady cX2_firstReady 3 (some (.object "FilledForOne$Kettle")), Cond.methodLink RX2 164 yX3_isReady, Cond.instanceMethod yX3_isReady, Cond.selects RX3 yX3_isReady yX3_isReady, Cond.code yX3_isReady cX3_isReady 3 (some .boolean), Cond.methodLink RX2 120 yX2_boil, Cond.instanceMethod yX2_boil, Cond.selects RX2 yX2_boil yX2_boil, Cond.code yX2_boil cX2_boil 5 none, Cond.fieldLink RX2 147 "FilledForOne$Comer" "kind" "I", Cond.fieldLink RX2 161 "FilledForOne$Day" "boils" "I", Cond.methodLink RX2 140 yX2_firstFree, Cond.instanceMethod yX2_firstFree, Cond.selects RX2 yX2_firstFree yX2_firstFree, Cond.code yX2_firstFree cX2_firstFree 2 (some (.object "FilledForOne$Kettle")), Cond.methodLink RX2 144 yX2_waitsForOwn, Cond.instanceMethod yX2_waitsForOwn, Cond.selects RX2 yX2_waitsForOwn yX2_waitsForOwn]
def wsX5_bestMark_r5 : List Cond := [Cond.code yX2_waitsForOwn cX2_waitsForOwn 3 (some .boolean), Cond.fieldLink RX2 168 "FilledForOne$Kettle" "putOnBy" "I", Cond.methodLink RX2 150 yX2_upTo, Cond.instanceMethod yX2_upTo, Cond.selects RX2 yX2_upTo yX2_upTo, Cond.code yX2_upTo cX2_upTo 4 (some .int), Cond.fieldLink RX2 177 "FilledForOne$Comer" "figure" "I", Cond.methodLink RX2 183 Lib.Math.max.name, Cond.static Lib.Math.max.name, Cond.initialized "java/lang/Math", Cond.code Lib.Math.max.name Lib.Math.max.code 2 (some .int), Cond.methodLink RX2 189 Lib.Math.min.name, Cond.static Lib.Math.min.name, Cond.code Lib.Math.min.name Lib.Math.min.code 2 (some .int), Cond.methodLink RX2 174 yX2_wantsInLine, Cond.instanceMethod yX2_wantsInLine, Cond.selects RX2 yX2_wantsInLine yX2_wantsInLine, Cond.code yX2_wantsInLine cX2_wantsInLine 3 (some .int), Cond.methodLink RX2 180 yX2_wantsToCome, Cond.instanceMethod yX2_wantsToCome, Cond.selects RX2 yX2_wantsToCome yX2_wantsToCome, Cond.code yX2_wantsToCome cX2_wantsToCome 4 (some .int), Cond.methodLink RX2 154 yX3_fill, Cond.instanceMethod yX3_fill]
def wsX5_bestMark_r6 : List Cond := [Cond.selects RX3 yX3_fill yX3_fill, Cond.code yX3_fill cX3_fill 2 none, Cond.methodLink RX2 157 yX3_putOn, Cond.instanceMethod yX3_putOn, Cond.selects RX3 yX3_putOn yX3_putOn, Cond.code yX3_putOn cX3_putOn 4 none, Cond.fieldLink RX3 24 "FilledForOne$Kettle" "putOnBy" "I", Cond.static yX6_heatingMinutes, Cond.initialized RX6, Cond.code yX6_heatingMinutes cX6_heatingMinutes 4 (some .int), Cond.methodLink RX2 127 yX2_coolDown, Cond.instanceMethod yX2_coolDown, Cond.selects RX2 yX2_coolDown yX2_coolDown, Cond.code yX2_coolDown cX2_coolDown 2 none, Cond.methodLink RX2 171 yX3_cool, Cond.instanceMethod yX3_cool, Cond.selects RX3 yX3_cool yX3_cool, Cond.code yX3_cool cX3_cool 2 none, Cond.methodLink RX3 31 Lib.Math.max.name, Cond.methodLink RX5 41 yX2_cost, Cond.instanceMethod yX2_cost, Cond.selects RX2 yX2_cost yX2_cost, Cond.code yX2_cost cX2_cost 1 (some .int), Cond.methodLink RX2 195 yX2_allWaited]
def wsX5_bestMark_r7 : List Cond := [Cond.instanceMethod yX2_allWaited, Cond.selects RX2 yX2_allWaited yX2_allWaited, Cond.code yX2_allWaited cX2_allWaited 3 (some .int), Cond.methodLink RX2 192 yX1_waited, Cond.instanceMethod yX1_waited, Cond.selects RX1 yX1_waited yX1_waited, Cond.initialized RX1, Cond.code yX1_waited cX1_waited 1 (some .int), Cond.fieldLink RX1 31 "FilledForOne$Comer" "state" "I", Cond.fieldLink RX1 34 "FilledForOne$Comer" "servedAt" "I", Cond.fieldLink RX1 22 "FilledForOne$Comer" "minute" "I", Cond.fieldLink RX1 28 "FilledForOne$Comer" "patience" "I", Cond.methodLink RX2 198 yX2_cupsLeft, Cond.instanceMethod yX2_cupsLeft, Cond.selects RX2 yX2_cupsLeft yX2_cupsLeft, Cond.code yX2_cupsLeft cX2_cupsLeft 3 (some .int)]
def wsX5_bestMark : List Cond := .code yX5_bestMark cX5_bestMark 6 (some .int) :: ((wsX5_bestMark_r1 ++ (wsX5_bestMark_r2 ++ (wsX5_bestMark_r3 ++ (wsX5_bestMark_r4 ++ (wsX5_bestMark_r5 ++ (wsX5_bestMark_r6 ++ wsX5_bestMark_r7)))))) ++ wsX50 ++ wsX20 ++ wsX10 ++ wsX30)
def wsX5_savedBySecond_r1 : List Cond := [Cond.fieldLink RX5 12 "FilledForOne$Mind" "day" "LFilledForOne$Day;", Cond.fieldLink RX5 91 "FilledForOne$Day" "settings" "[I", Cond.methodLink RX5 72 yX5_costAnew, Cond.instanceMethod yX5_costAnew, Cond.selects RX5 yX5_costAnew yX5_costAnew, Cond.initialized RX5, Cond.code yX5_costAnew cX5_costAnew 2 (some .int), Cond.methodLink RX5 56 yX2_begin, Cond.instanceMethod yX2_begin, Cond.selects RX2 yX2_begin yX2_begin, Cond.initialized RX2, Cond.code yX2_begin cX2_begin 2 none, Cond.fieldLink RX2 53 "FilledForOne$Day" "minute" "I", Cond.fieldLink RX2 50 "FilledForOne$Day" "lined" "I", Cond.fieldLink RX2 46 "FilledForOne$Day" "known" "I", Cond.fieldLink RX2 25 "FilledForOne$Day" "comers" "[LFilledForOne$Comer;", Cond.fieldLink RX2 63 "FilledForOne$Comer" "state" "I", Cond.fieldLink RX2 32 "FilledForOne$Day" "kettles" "[LFilledForOne$Kettle;", Cond.methodLink RX2 66 yX3_begin, Cond.instanceMethod yX3_begin, Cond.selects RX3 yX3_begin yX3_begin, Cond.initialized RX3, Cond.code yX3_begin cX3_begin 1 none, Cond.fieldLink RX3 9 "FilledForOne$Kettle" "level" "I"]
def wsX5_savedBySecond_r2 : List Cond := [Cond.fieldLink RX3 15 "FilledForOne$Kettle" "warmth" "I", Cond.fieldLink RX3 18 "FilledForOne$Kettle" "age" "I", Cond.fieldLink RX3 21 "FilledForOne$Kettle" "busyTill" "I", Cond.methodLink RX5 59 yX2_isOver, Cond.instanceMethod yX2_isOver, Cond.selects RX2 yX2_isOver yX2_isOver, Cond.code yX2_isOver cX2_isOver 1 (some .boolean), Cond.methodLink RX2 90 yX2_comersWith, Cond.instanceMethod yX2_comersWith, Cond.selects RX2 yX2_comersWith yX2_comersWith, Cond.code yX2_comersWith cX2_comersWith 4 (some .int), Cond.methodLink RX2 94 yX2_allFree, Cond.instanceMethod yX2_allFree, Cond.selects RX2 yX2_allFree yX2_allFree, Cond.code yX2_allFree cX2_allFree 2 (some .boolean), Cond.methodLink RX2 98 yX2_kettlesInUse, Cond.instanceMethod yX2_kettlesInUse, Cond.selects RX2 yX2_kettlesInUse yX2_kettlesInUse, Cond.code yX2_kettlesInUse cX2_kettlesInUse 1 (some .int), Cond.fieldLink RX2 18 "FilledForOne$Day" "settings" "[I", Cond.methodLink RX2 101 yX3_isFree, Cond.instanceMethod yX3_isFree, Cond.selects RX3 yX3_isFree yX3_isFree, Cond.code yX3_isFree cX3_isFree 2 (some .boolean)]
def wsX5_savedBySecond_r3 : List Cond := [Cond.methodLink RX5 63 yX2_passMinute, Cond.instanceMethod yX2_passMinute, Cond.selects RX2 yX2_passMinute yX2_passMinute, Cond.code yX2_passMinute cX2_passMinute 2 none, Cond.fieldLink RX2 37 "FilledForOne$Day" "line" "[I", Cond.methodLink RX2 111 yX2_lineUp, Cond.instanceMethod yX2_lineUp, Cond.selects RX2 yX2_lineUp yX2_lineUp, Cond.code yX2_lineUp cX2_lineUp 2 none, Cond.fieldLink RX2 83 "FilledForOne$Comer" "minute" "I", Cond.methodLink RX2 114 yX2_loseImpatient, Cond.instanceMethod yX2_loseImpatient, Cond.selects RX2 yX2_loseImpatient yX2_loseImpatient, Cond.code yX2_loseImpatient cX2_loseImpatient 3 none, Cond.fieldLink RX2 87 "FilledForOne$Comer" "patience" "I", Cond.methodLink RX2 124 yX2_closeUp, Cond.instanceMethod yX2_closeUp, Cond.selects RX2 yX2_closeUp yX2_closeUp, Cond.code yX2_closeUp cX2_closeUp 3 none, Cond.methodLink RX2 117 yX2_serve, Cond.instanceMethod yX2_serve, Cond.selects RX2 yX2_serve yX2_serve, Cond.code yX2_serve cX2_serve 4 (some .boolean), Cond.fieldLink RX2 84 "FilledForOne$Comer" "wants" "I"]
def wsX5_savedBySecond_r4 : List Cond := [Cond.fieldLink RX2 134 "FilledForOne$Kettle" "level" "I", Cond.fieldLink RX2 137 "FilledForOne$Comer" "servedAt" "I", Cond.methodLink RX2 130 yX2_firstReady, Cond.instanceMethod yX2_firstReady, Cond.selects RX2 yX2_firstReady yX2_firstReady, Cond.code yX2_firstReady cX2_firstReady 3 (some (.object "FilledForOne$Kettle")), Cond.methodLink RX2 164 yX3_isReady, Cond.instanceMethod yX3_isReady, Cond.selects RX3 yX3_isReady yX3_isReady, Cond.code yX3_isReady cX3_isReady 3 (some .boolean), Cond.methodLink RX2 120 yX2_boil, Cond.instanceMethod yX2_boil, Cond.selects RX2 yX2_boil yX2_boil, Cond.code yX2_boil cX2_boil 5 none, Cond.fieldLink RX2 147 "FilledForOne$Comer" "kind" "I", Cond.fieldLink RX2 161 "FilledForOne$Day" "boils" "I", Cond.methodLink RX2 140 yX2_firstFree, Cond.instanceMethod yX2_firstFree, Cond.selects RX2 yX2_firstFree yX2_firstFree, Cond.code yX2_firstFree cX2_firstFree 2 (some (.object "FilledForOne$Kettle")), Cond.methodLink RX2 144 yX2_waitsForOwn, Cond.instanceMethod yX2_waitsForOwn, Cond.selects RX2 yX2_waitsForOwn yX2_waitsForOwn, Cond.code yX2_waitsForOwn cX2_waitsForOwn 3 (some .boolean)]
def wsX5_savedBySecond_r5 : List Cond := [Cond.fieldLink RX2 168 "FilledForOne$Kettle" "putOnBy" "I", Cond.methodLink RX2 150 yX2_upTo, Cond.instanceMethod yX2_upTo, Cond.selects RX2 yX2_upTo yX2_upTo, Cond.code yX2_upTo cX2_upTo 4 (some .int), Cond.fieldLink RX2 177 "FilledForOne$Comer" "figure" "I", Cond.methodLink RX2 183 Lib.Math.max.name, Cond.static Lib.Math.max.name, Cond.initialized "java/lang/Math", Cond.code Lib.Math.max.name Lib.Math.max.code 2 (some .int), Cond.methodLink RX2 189 Lib.Math.min.name, Cond.static Lib.Math.min.name, Cond.code Lib.Math.min.name Lib.Math.min.code 2 (some .int), Cond.methodLink RX2 174 yX2_wantsInLine, Cond.instanceMethod yX2_wantsInLine, Cond.selects RX2 yX2_wantsInLine yX2_wantsInLine, Cond.code yX2_wantsInLine cX2_wantsInLine 3 (some .int), Cond.methodLink RX2 180 yX2_wantsToCome, Cond.instanceMethod yX2_wantsToCome, Cond.selects RX2 yX2_wantsToCome yX2_wantsToCome, Cond.code yX2_wantsToCome cX2_wantsToCome 4 (some .int), Cond.methodLink RX2 154 yX3_fill, Cond.instanceMethod yX3_fill, Cond.selects RX3 yX3_fill yX3_fill]
def wsX5_savedBySecond_r6 : List Cond := [Cond.code yX3_fill cX3_fill 2 none, Cond.methodLink RX2 157 yX3_putOn, Cond.instanceMethod yX3_putOn, Cond.selects RX3 yX3_putOn yX3_putOn, Cond.code yX3_putOn cX3_putOn 4 none, Cond.fieldLink RX3 24 "FilledForOne$Kettle" "putOnBy" "I", Cond.static yX6_heatingMinutes, Cond.initialized RX6, Cond.code yX6_heatingMinutes cX6_heatingMinutes 4 (some .int), Cond.methodLink RX2 127 yX2_coolDown, Cond.instanceMethod yX2_coolDown, Cond.selects RX2 yX2_coolDown yX2_coolDown, Cond.code yX2_coolDown cX2_coolDown 2 none, Cond.methodLink RX2 171 yX3_cool, Cond.instanceMethod yX3_cool, Cond.selects RX3 yX3_cool yX3_cool, Cond.code yX3_cool cX3_cool 2 none, Cond.methodLink RX3 31 Lib.Math.max.name, Cond.methodLink RX5 41 yX2_cost, Cond.instanceMethod yX2_cost, Cond.selects RX2 yX2_cost yX2_cost, Cond.code yX2_cost cX2_cost 1 (some .int), Cond.methodLink RX2 195 yX2_allWaited, Cond.instanceMethod yX2_allWaited]
def wsX5_savedBySecond_r7 : List Cond := [Cond.selects RX2 yX2_allWaited yX2_allWaited, Cond.code yX2_allWaited cX2_allWaited 3 (some .int), Cond.methodLink RX2 192 yX1_waited, Cond.instanceMethod yX1_waited, Cond.selects RX1 yX1_waited yX1_waited, Cond.initialized RX1, Cond.code yX1_waited cX1_waited 1 (some .int), Cond.fieldLink RX1 31 "FilledForOne$Comer" "state" "I", Cond.fieldLink RX1 34 "FilledForOne$Comer" "servedAt" "I", Cond.fieldLink RX1 22 "FilledForOne$Comer" "minute" "I", Cond.fieldLink RX1 28 "FilledForOne$Comer" "patience" "I", Cond.methodLink RX2 198 yX2_cupsLeft, Cond.instanceMethod yX2_cupsLeft, Cond.selects RX2 yX2_cupsLeft yX2_cupsLeft, Cond.code yX2_cupsLeft cX2_cupsLeft 3 (some .int)]
def wsX5_savedBySecond : List Cond := .code yX5_savedBySecond cX5_savedBySecond 2 (some .int) :: ((wsX5_savedBySecond_r1 ++ (wsX5_savedBySecond_r2 ++ (wsX5_savedBySecond_r3 ++ (wsX5_savedBySecond_r4 ++ (wsX5_savedBySecond_r5 ++ (wsX5_savedBySecond_r6 ++ wsX5_savedBySecond_r7)))))) ++ wsX50 ++ wsX20 ++ wsX10 ++ wsX30)
def wsX5_comerToFollow_r1 : List Cond := [Cond.constant RX5 71 (2147483647), Cond.fieldLink RX5 78 "FilledForOne$Day" "known" "I", Cond.fieldLink RX5 44 "FilledForOne$Day" "comers" "[LFilledForOne$Comer;", Cond.fieldLink RX5 12 "FilledForOne$Mind" "day" "LFilledForOne$Day;", Cond.fieldLink RX5 66 "FilledForOne$Comer" "kind" "I", Cond.fieldLink RX5 95 "FilledForOne$Comer" "figure" "I", Cond.methodLink RX5 98 yX1_become, Cond.instanceMethod yX1_become, Cond.selects RX1 yX1_become yX1_become, Cond.initialized RX1, Cond.code yX1_become cX1_become 3 none, Cond.fieldLink RX1 9 "FilledForOne$Comer" "kind" "I", Cond.fieldLink RX1 15 "FilledForOne$Comer" "figure" "I", Cond.methodLink RX5 72 yX5_costAnew, Cond.instanceMethod yX5_costAnew, Cond.selects RX5 yX5_costAnew yX5_costAnew, Cond.initialized RX5, Cond.code yX5_costAnew cX5_costAnew 2 (some .int), Cond.methodLink RX5 56 yX2_begin, Cond.instanceMethod yX2_begin, Cond.selects RX2 yX2_begin yX2_begin, Cond.initialized RX2, Cond.code yX2_begin cX2_begin 2 none, Cond.fieldLink RX2 53 "FilledForOne$Day" "minute" "I"]
def wsX5_comerToFollow_r2 : List Cond := [Cond.fieldLink RX2 50 "FilledForOne$Day" "lined" "I", Cond.fieldLink RX2 46 "FilledForOne$Day" "known" "I", Cond.fieldLink RX2 25 "FilledForOne$Day" "comers" "[LFilledForOne$Comer;", Cond.fieldLink RX2 63 "FilledForOne$Comer" "state" "I", Cond.fieldLink RX2 32 "FilledForOne$Day" "kettles" "[LFilledForOne$Kettle;", Cond.methodLink RX2 66 yX3_begin, Cond.instanceMethod yX3_begin, Cond.selects RX3 yX3_begin yX3_begin, Cond.initialized RX3, Cond.code yX3_begin cX3_begin 1 none, Cond.fieldLink RX3 9 "FilledForOne$Kettle" "level" "I", Cond.fieldLink RX3 15 "FilledForOne$Kettle" "warmth" "I", Cond.fieldLink RX3 18 "FilledForOne$Kettle" "age" "I", Cond.fieldLink RX3 21 "FilledForOne$Kettle" "busyTill" "I", Cond.methodLink RX5 59 yX2_isOver, Cond.instanceMethod yX2_isOver, Cond.selects RX2 yX2_isOver yX2_isOver, Cond.code yX2_isOver cX2_isOver 1 (some .boolean), Cond.methodLink RX2 90 yX2_comersWith, Cond.instanceMethod yX2_comersWith, Cond.selects RX2 yX2_comersWith yX2_comersWith, Cond.code yX2_comersWith cX2_comersWith 4 (some .int), Cond.methodLink RX2 94 yX2_allFree, Cond.instanceMethod yX2_allFree]
def wsX5_comerToFollow_r3 : List Cond := [Cond.selects RX2 yX2_allFree yX2_allFree, Cond.code yX2_allFree cX2_allFree 2 (some .boolean), Cond.methodLink RX2 98 yX2_kettlesInUse, Cond.instanceMethod yX2_kettlesInUse, Cond.selects RX2 yX2_kettlesInUse yX2_kettlesInUse, Cond.code yX2_kettlesInUse cX2_kettlesInUse 1 (some .int), Cond.fieldLink RX2 18 "FilledForOne$Day" "settings" "[I", Cond.methodLink RX2 101 yX3_isFree, Cond.instanceMethod yX3_isFree, Cond.selects RX3 yX3_isFree yX3_isFree, Cond.code yX3_isFree cX3_isFree 2 (some .boolean), Cond.methodLink RX5 63 yX2_passMinute, Cond.instanceMethod yX2_passMinute, Cond.selects RX2 yX2_passMinute yX2_passMinute, Cond.code yX2_passMinute cX2_passMinute 2 none, Cond.fieldLink RX2 37 "FilledForOne$Day" "line" "[I", Cond.methodLink RX2 111 yX2_lineUp, Cond.instanceMethod yX2_lineUp, Cond.selects RX2 yX2_lineUp yX2_lineUp, Cond.code yX2_lineUp cX2_lineUp 2 none, Cond.fieldLink RX2 83 "FilledForOne$Comer" "minute" "I", Cond.methodLink RX2 114 yX2_loseImpatient, Cond.instanceMethod yX2_loseImpatient, Cond.selects RX2 yX2_loseImpatient yX2_loseImpatient]
def wsX5_comerToFollow_r4 : List Cond := [Cond.code yX2_loseImpatient cX2_loseImpatient 3 none, Cond.fieldLink RX2 87 "FilledForOne$Comer" "patience" "I", Cond.methodLink RX2 124 yX2_closeUp, Cond.instanceMethod yX2_closeUp, Cond.selects RX2 yX2_closeUp yX2_closeUp, Cond.code yX2_closeUp cX2_closeUp 3 none, Cond.methodLink RX2 117 yX2_serve, Cond.instanceMethod yX2_serve, Cond.selects RX2 yX2_serve yX2_serve, Cond.code yX2_serve cX2_serve 4 (some .boolean), Cond.fieldLink RX2 84 "FilledForOne$Comer" "wants" "I", Cond.fieldLink RX2 134 "FilledForOne$Kettle" "level" "I", Cond.fieldLink RX2 137 "FilledForOne$Comer" "servedAt" "I", Cond.methodLink RX2 130 yX2_firstReady, Cond.instanceMethod yX2_firstReady, Cond.selects RX2 yX2_firstReady yX2_firstReady, Cond.code yX2_firstReady cX2_firstReady 3 (some (.object "FilledForOne$Kettle")), Cond.methodLink RX2 164 yX3_isReady, Cond.instanceMethod yX3_isReady, Cond.selects RX3 yX3_isReady yX3_isReady, Cond.code yX3_isReady cX3_isReady 3 (some .boolean), Cond.methodLink RX2 120 yX2_boil, Cond.instanceMethod yX2_boil, Cond.selects RX2 yX2_boil yX2_boil]
def wsX5_comerToFollow_r5 : List Cond := [Cond.code yX2_boil cX2_boil 5 none, Cond.fieldLink RX2 147 "FilledForOne$Comer" "kind" "I", Cond.fieldLink RX2 161 "FilledForOne$Day" "boils" "I", Cond.methodLink RX2 140 yX2_firstFree, Cond.instanceMethod yX2_firstFree, Cond.selects RX2 yX2_firstFree yX2_firstFree, Cond.code yX2_firstFree cX2_firstFree 2 (some (.object "FilledForOne$Kettle")), Cond.methodLink RX2 144 yX2_waitsForOwn, Cond.instanceMethod yX2_waitsForOwn, Cond.selects RX2 yX2_waitsForOwn yX2_waitsForOwn, Cond.code yX2_waitsForOwn cX2_waitsForOwn 3 (some .boolean), Cond.fieldLink RX2 168 "FilledForOne$Kettle" "putOnBy" "I", Cond.methodLink RX2 150 yX2_upTo, Cond.instanceMethod yX2_upTo, Cond.selects RX2 yX2_upTo yX2_upTo, Cond.code yX2_upTo cX2_upTo 4 (some .int), Cond.fieldLink RX2 177 "FilledForOne$Comer" "figure" "I", Cond.methodLink RX2 183 Lib.Math.max.name, Cond.static Lib.Math.max.name, Cond.initialized "java/lang/Math", Cond.code Lib.Math.max.name Lib.Math.max.code 2 (some .int), Cond.methodLink RX2 189 Lib.Math.min.name, Cond.static Lib.Math.min.name, Cond.code Lib.Math.min.name Lib.Math.min.code 2 (some .int)]
def wsX5_comerToFollow_r6 : List Cond := [Cond.methodLink RX2 174 yX2_wantsInLine, Cond.instanceMethod yX2_wantsInLine, Cond.selects RX2 yX2_wantsInLine yX2_wantsInLine, Cond.code yX2_wantsInLine cX2_wantsInLine 3 (some .int), Cond.methodLink RX2 180 yX2_wantsToCome, Cond.instanceMethod yX2_wantsToCome, Cond.selects RX2 yX2_wantsToCome yX2_wantsToCome, Cond.code yX2_wantsToCome cX2_wantsToCome 4 (some .int), Cond.methodLink RX2 154 yX3_fill, Cond.instanceMethod yX3_fill, Cond.selects RX3 yX3_fill yX3_fill, Cond.code yX3_fill cX3_fill 2 none, Cond.methodLink RX2 157 yX3_putOn, Cond.instanceMethod yX3_putOn, Cond.selects RX3 yX3_putOn yX3_putOn, Cond.code yX3_putOn cX3_putOn 4 none, Cond.fieldLink RX3 24 "FilledForOne$Kettle" "putOnBy" "I", Cond.static yX6_heatingMinutes, Cond.initialized RX6, Cond.code yX6_heatingMinutes cX6_heatingMinutes 4 (some .int), Cond.methodLink RX2 127 yX2_coolDown, Cond.instanceMethod yX2_coolDown, Cond.selects RX2 yX2_coolDown yX2_coolDown, Cond.code yX2_coolDown cX2_coolDown 2 none]
def wsX5_comerToFollow_r7 : List Cond := [Cond.methodLink RX2 171 yX3_cool, Cond.instanceMethod yX3_cool, Cond.selects RX3 yX3_cool yX3_cool, Cond.code yX3_cool cX3_cool 2 none, Cond.methodLink RX3 31 Lib.Math.max.name, Cond.methodLink RX5 41 yX2_cost, Cond.instanceMethod yX2_cost, Cond.selects RX2 yX2_cost yX2_cost, Cond.code yX2_cost cX2_cost 1 (some .int), Cond.methodLink RX2 195 yX2_allWaited, Cond.instanceMethod yX2_allWaited, Cond.selects RX2 yX2_allWaited yX2_allWaited, Cond.code yX2_allWaited cX2_allWaited 3 (some .int), Cond.methodLink RX2 192 yX1_waited, Cond.instanceMethod yX1_waited, Cond.selects RX1 yX1_waited yX1_waited, Cond.code yX1_waited cX1_waited 1 (some .int), Cond.fieldLink RX1 31 "FilledForOne$Comer" "state" "I", Cond.fieldLink RX1 34 "FilledForOne$Comer" "servedAt" "I", Cond.fieldLink RX1 22 "FilledForOne$Comer" "minute" "I", Cond.fieldLink RX1 28 "FilledForOne$Comer" "patience" "I", Cond.methodLink RX2 198 yX2_cupsLeft, Cond.instanceMethod yX2_cupsLeft, Cond.selects RX2 yX2_cupsLeft yX2_cupsLeft]
def wsX5_comerToFollow_r8 : List Cond := [Cond.code yX2_cupsLeft cX2_cupsLeft 3 (some .int)]
def wsX5_comerToFollow : List Cond := .code yX5_comerToFollow cX5_comerToFollow 7 (some .int) :: ((wsX5_comerToFollow_r1 ++ (wsX5_comerToFollow_r2 ++ (wsX5_comerToFollow_r3 ++ (wsX5_comerToFollow_r4 ++ (wsX5_comerToFollow_r5 ++ (wsX5_comerToFollow_r6 ++ (wsX5_comerToFollow_r7 ++ wsX5_comerToFollow_r8))))))) ++ wsX20 ++ wsX50 ++ wsX10 ++ wsX30)
def wsX5_firstOtherLevel_r1 : List Cond := [Cond.fieldLink RX5 12 "FilledForOne$Mind" "day" "LFilledForOne$Day;", Cond.fieldLink RX5 102 "FilledForOne$Day" "kettles" "[LFilledForOne$Kettle;", Cond.fieldLink RX5 106 "FilledForOne$Kettle" "level" "I", Cond.methodLink RX5 26 yX2_pass, Cond.instanceMethod yX2_pass, Cond.selects RX2 yX2_pass yX2_pass, Cond.initialized RX2, Cond.code yX2_pass cX2_pass 3 none, Cond.methodLink RX2 105 yX2_isOver, Cond.instanceMethod yX2_isOver, Cond.selects RX2 yX2_isOver yX2_isOver, Cond.code yX2_isOver cX2_isOver 1 (some .boolean), Cond.fieldLink RX2 53 "FilledForOne$Day" "minute" "I", Cond.fieldLink RX2 50 "FilledForOne$Day" "lined" "I", Cond.methodLink RX2 90 yX2_comersWith, Cond.instanceMethod yX2_comersWith, Cond.selects RX2 yX2_comersWith yX2_comersWith, Cond.code yX2_comersWith cX2_comersWith 4 (some .int), Cond.fieldLink RX2 46 "FilledForOne$Day" "known" "I", Cond.fieldLink RX2 25 "FilledForOne$Day" "comers" "[LFilledForOne$Comer;", Cond.fieldLink RX2 63 "FilledForOne$Comer" "state" "I", Cond.methodLink RX2 94 yX2_allFree, Cond.instanceMethod yX2_allFree, Cond.selects RX2 yX2_allFree yX2_allFree]
def wsX5_firstOtherLevel_r2 : List Cond := [Cond.code yX2_allFree cX2_allFree 2 (some .boolean), Cond.fieldLink RX2 32 "FilledForOne$Day" "kettles" "[LFilledForOne$Kettle;", Cond.methodLink RX2 98 yX2_kettlesInUse, Cond.instanceMethod yX2_kettlesInUse, Cond.selects RX2 yX2_kettlesInUse yX2_kettlesInUse, Cond.code yX2_kettlesInUse cX2_kettlesInUse 1 (some .int), Cond.fieldLink RX2 18 "FilledForOne$Day" "settings" "[I", Cond.methodLink RX2 101 yX3_isFree, Cond.instanceMethod yX3_isFree, Cond.selects RX3 yX3_isFree yX3_isFree, Cond.initialized RX3, Cond.code yX3_isFree cX3_isFree 2 (some .boolean), Cond.fieldLink RX3 21 "FilledForOne$Kettle" "busyTill" "I", Cond.methodLink RX2 108 yX2_passMinute, Cond.instanceMethod yX2_passMinute, Cond.selects RX2 yX2_passMinute yX2_passMinute, Cond.code yX2_passMinute cX2_passMinute 2 none, Cond.fieldLink RX2 37 "FilledForOne$Day" "line" "[I", Cond.methodLink RX2 111 yX2_lineUp, Cond.instanceMethod yX2_lineUp, Cond.selects RX2 yX2_lineUp yX2_lineUp, Cond.code yX2_lineUp cX2_lineUp 2 none, Cond.fieldLink RX2 83 "FilledForOne$Comer" "minute" "I", Cond.methodLink RX2 114 yX2_loseImpatient]
def wsX5_firstOtherLevel_r3 : List Cond := [Cond.instanceMethod yX2_loseImpatient, Cond.selects RX2 yX2_loseImpatient yX2_loseImpatient, Cond.code yX2_loseImpatient cX2_loseImpatient 3 none, Cond.fieldLink RX2 87 "FilledForOne$Comer" "patience" "I", Cond.methodLink RX2 124 yX2_closeUp, Cond.instanceMethod yX2_closeUp, Cond.selects RX2 yX2_closeUp yX2_closeUp, Cond.code yX2_closeUp cX2_closeUp 3 none, Cond.methodLink RX2 117 yX2_serve, Cond.instanceMethod yX2_serve, Cond.selects RX2 yX2_serve yX2_serve, Cond.code yX2_serve cX2_serve 4 (some .boolean), Cond.fieldLink RX2 84 "FilledForOne$Comer" "wants" "I", Cond.fieldLink RX2 134 "FilledForOne$Kettle" "level" "I", Cond.fieldLink RX2 137 "FilledForOne$Comer" "servedAt" "I", Cond.methodLink RX2 130 yX2_firstReady, Cond.instanceMethod yX2_firstReady, Cond.selects RX2 yX2_firstReady yX2_firstReady, Cond.code yX2_firstReady cX2_firstReady 3 (some (.object "FilledForOne$Kettle")), Cond.methodLink RX2 164 yX3_isReady, Cond.instanceMethod yX3_isReady, Cond.selects RX3 yX3_isReady yX3_isReady, Cond.code yX3_isReady cX3_isReady 3 (some .boolean), Cond.fieldLink RX3 15 "FilledForOne$Kettle" "warmth" "I"]
def wsX5_firstOtherLevel_r4 : List Cond := [Cond.fieldLink RX3 9 "FilledForOne$Kettle" "level" "I", Cond.methodLink RX2 120 yX2_boil, Cond.instanceMethod yX2_boil, Cond.selects RX2 yX2_boil yX2_boil, Cond.code yX2_boil cX2_boil 5 none, Cond.fieldLink RX2 147 "FilledForOne$Comer" "kind" "I", Cond.fieldLink RX2 161 "FilledForOne$Day" "boils" "I", Cond.methodLink RX2 140 yX2_firstFree, Cond.instanceMethod yX2_firstFree, Cond.selects RX2 yX2_firstFree yX2_firstFree, Cond.code yX2_firstFree cX2_firstFree 2 (some (.object "FilledForOne$Kettle")), Cond.methodLink RX2 144 yX2_waitsForOwn, Cond.instanceMethod yX2_waitsForOwn, Cond.selects RX2 yX2_waitsForOwn yX2_waitsForOwn, Cond.code yX2_waitsForOwn cX2_waitsForOwn 3 (some .boolean), Cond.fieldLink RX2 168 "FilledForOne$Kettle" "putOnBy" "I", Cond.methodLink RX2 150 yX2_upTo, Cond.instanceMethod yX2_upTo, Cond.selects RX2 yX2_upTo yX2_upTo, Cond.code yX2_upTo cX2_upTo 4 (some .int), Cond.fieldLink RX2 177 "FilledForOne$Comer" "figure" "I", Cond.methodLink RX2 183 Lib.Math.max.name, Cond.static Lib.Math.max.name, Cond.initialized "java/lang/Math"]
def wsX5_firstOtherLevel_r5 : List Cond := [Cond.code Lib.Math.max.name Lib.Math.max.code 2 (some .int), Cond.methodLink RX2 189 Lib.Math.min.name, Cond.static Lib.Math.min.name, Cond.code Lib.Math.min.name Lib.Math.min.code 2 (some .int), Cond.methodLink RX2 174 yX2_wantsInLine, Cond.instanceMethod yX2_wantsInLine, Cond.selects RX2 yX2_wantsInLine yX2_wantsInLine, Cond.code yX2_wantsInLine cX2_wantsInLine 3 (some .int), Cond.methodLink RX2 180 yX2_wantsToCome, Cond.instanceMethod yX2_wantsToCome, Cond.selects RX2 yX2_wantsToCome yX2_wantsToCome, Cond.code yX2_wantsToCome cX2_wantsToCome 4 (some .int), Cond.methodLink RX2 154 yX3_fill, Cond.instanceMethod yX3_fill, Cond.selects RX3 yX3_fill yX3_fill, Cond.code yX3_fill cX3_fill 2 none, Cond.methodLink RX2 157 yX3_putOn, Cond.instanceMethod yX3_putOn, Cond.selects RX3 yX3_putOn yX3_putOn, Cond.code yX3_putOn cX3_putOn 4 none, Cond.fieldLink RX3 18 "FilledForOne$Kettle" "age" "I", Cond.fieldLink RX3 24 "FilledForOne$Kettle" "putOnBy" "I", Cond.static yX6_heatingMinutes, Cond.initialized RX6]
def wsX5_firstOtherLevel_r6 : List Cond := [Cond.code yX6_heatingMinutes cX6_heatingMinutes 4 (some .int), Cond.methodLink RX2 127 yX2_coolDown, Cond.instanceMethod yX2_coolDown, Cond.selects RX2 yX2_coolDown yX2_coolDown, Cond.code yX2_coolDown cX2_coolDown 2 none, Cond.methodLink RX2 171 yX3_cool, Cond.instanceMethod yX3_cool, Cond.selects RX3 yX3_cool yX3_cool, Cond.code yX3_cool cX3_cool 2 none, Cond.methodLink RX3 31 Lib.Math.max.name]
def wsX5_firstOtherLevel : List Cond := .code yX5_firstOtherLevel cX5_firstOtherLevel 4 (some .int) :: ((wsX5_firstOtherLevel_r1 ++ (wsX5_firstOtherLevel_r2 ++ (wsX5_firstOtherLevel_r3 ++ (wsX5_firstOtherLevel_r4 ++ (wsX5_firstOtherLevel_r5 ++ wsX5_firstOtherLevel_r6))))) ++ wsX50 ++ wsX20 ++ wsX30 ++ wsX10)
def wsX5_draw : List Cond := .code yX5_draw cX5_draw 2 (some .int) :: ([.fieldLink RX5 111 "FilledForOne$Mind" "seed" "I", .constant RX5 120 (1103515245), .constant RX5 71 (2147483647), .constant RX5 121 (65536)] ++ wsX50)
def wsX5_drawnDays_r1 : List Cond := [Cond.fieldLink RX5 111 "FilledForOne$Mind" "seed" "I", Cond.fieldLink RX5 12 "FilledForOne$Mind" "day" "LFilledForOne$Day;", Cond.fieldLink RX5 78 "FilledForOne$Day" "known" "I", Cond.fieldLink RX5 44 "FilledForOne$Day" "comers" "[LFilledForOne$Comer;", Cond.fieldLink RX5 117 "FilledForOne$Comer" "minute" "I", Cond.methodLink RX5 114 yX5_draw, Cond.instanceMethod yX5_draw, Cond.selects RX5 yX5_draw yX5_draw, Cond.initialized RX5, Cond.code yX5_draw cX5_draw 2 (some .int), Cond.constant RX5 120 (1103515245), Cond.constant RX5 71 (2147483647), Cond.constant RX5 121 (65536), Cond.methodLink RX5 72 yX5_costAnew, Cond.instanceMethod yX5_costAnew, Cond.selects RX5 yX5_costAnew yX5_costAnew, Cond.code yX5_costAnew cX5_costAnew 2 (some .int), Cond.methodLink RX5 56 yX2_begin, Cond.instanceMethod yX2_begin, Cond.selects RX2 yX2_begin yX2_begin, Cond.initialized RX2, Cond.code yX2_begin cX2_begin 2 none, Cond.fieldLink RX2 53 "FilledForOne$Day" "minute" "I", Cond.fieldLink RX2 50 "FilledForOne$Day" "lined" "I"]
def wsX5_drawnDays_r2 : List Cond := [Cond.fieldLink RX2 46 "FilledForOne$Day" "known" "I", Cond.fieldLink RX2 25 "FilledForOne$Day" "comers" "[LFilledForOne$Comer;", Cond.fieldLink RX2 63 "FilledForOne$Comer" "state" "I", Cond.fieldLink RX2 32 "FilledForOne$Day" "kettles" "[LFilledForOne$Kettle;", Cond.methodLink RX2 66 yX3_begin, Cond.instanceMethod yX3_begin, Cond.selects RX3 yX3_begin yX3_begin, Cond.initialized RX3, Cond.code yX3_begin cX3_begin 1 none, Cond.fieldLink RX3 9 "FilledForOne$Kettle" "level" "I", Cond.fieldLink RX3 15 "FilledForOne$Kettle" "warmth" "I", Cond.fieldLink RX3 18 "FilledForOne$Kettle" "age" "I", Cond.fieldLink RX3 21 "FilledForOne$Kettle" "busyTill" "I", Cond.methodLink RX5 59 yX2_isOver, Cond.instanceMethod yX2_isOver, Cond.selects RX2 yX2_isOver yX2_isOver, Cond.code yX2_isOver cX2_isOver 1 (some .boolean), Cond.methodLink RX2 90 yX2_comersWith, Cond.instanceMethod yX2_comersWith, Cond.selects RX2 yX2_comersWith yX2_comersWith, Cond.code yX2_comersWith cX2_comersWith 4 (some .int), Cond.methodLink RX2 94 yX2_allFree, Cond.instanceMethod yX2_allFree, Cond.selects RX2 yX2_allFree yX2_allFree]
def wsX5_drawnDays_r3 : List Cond := [Cond.code yX2_allFree cX2_allFree 2 (some .boolean), Cond.methodLink RX2 98 yX2_kettlesInUse, Cond.instanceMethod yX2_kettlesInUse, Cond.selects RX2 yX2_kettlesInUse yX2_kettlesInUse, Cond.code yX2_kettlesInUse cX2_kettlesInUse 1 (some .int), Cond.fieldLink RX2 18 "FilledForOne$Day" "settings" "[I", Cond.methodLink RX2 101 yX3_isFree, Cond.instanceMethod yX3_isFree, Cond.selects RX3 yX3_isFree yX3_isFree, Cond.code yX3_isFree cX3_isFree 2 (some .boolean), Cond.methodLink RX5 63 yX2_passMinute, Cond.instanceMethod yX2_passMinute, Cond.selects RX2 yX2_passMinute yX2_passMinute, Cond.code yX2_passMinute cX2_passMinute 2 none, Cond.fieldLink RX2 37 "FilledForOne$Day" "line" "[I", Cond.methodLink RX2 111 yX2_lineUp, Cond.instanceMethod yX2_lineUp, Cond.selects RX2 yX2_lineUp yX2_lineUp, Cond.code yX2_lineUp cX2_lineUp 2 none, Cond.fieldLink RX2 83 "FilledForOne$Comer" "minute" "I", Cond.methodLink RX2 114 yX2_loseImpatient, Cond.instanceMethod yX2_loseImpatient, Cond.selects RX2 yX2_loseImpatient yX2_loseImpatient, Cond.code yX2_loseImpatient cX2_loseImpatient 3 none]
def wsX5_drawnDays_r4 : List Cond := [Cond.fieldLink RX2 87 "FilledForOne$Comer" "patience" "I", Cond.methodLink RX2 124 yX2_closeUp, Cond.instanceMethod yX2_closeUp, Cond.selects RX2 yX2_closeUp yX2_closeUp, Cond.code yX2_closeUp cX2_closeUp 3 none, Cond.methodLink RX2 117 yX2_serve, Cond.instanceMethod yX2_serve, Cond.selects RX2 yX2_serve yX2_serve, Cond.code yX2_serve cX2_serve 4 (some .boolean), Cond.fieldLink RX2 84 "FilledForOne$Comer" "wants" "I", Cond.fieldLink RX2 134 "FilledForOne$Kettle" "level" "I", Cond.fieldLink RX2 137 "FilledForOne$Comer" "servedAt" "I", Cond.methodLink RX2 130 yX2_firstReady, Cond.instanceMethod yX2_firstReady, Cond.selects RX2 yX2_firstReady yX2_firstReady, Cond.code yX2_firstReady cX2_firstReady 3 (some (.object "FilledForOne$Kettle")), Cond.methodLink RX2 164 yX3_isReady, Cond.instanceMethod yX3_isReady, Cond.selects RX3 yX3_isReady yX3_isReady, Cond.code yX3_isReady cX3_isReady 3 (some .boolean), Cond.methodLink RX2 120 yX2_boil, Cond.instanceMethod yX2_boil, Cond.selects RX2 yX2_boil yX2_boil, Cond.code yX2_boil cX2_boil 5 none]
def wsX5_drawnDays_r5 : List Cond := [Cond.fieldLink RX2 147 "FilledForOne$Comer" "kind" "I", Cond.fieldLink RX2 161 "FilledForOne$Day" "boils" "I", Cond.methodLink RX2 140 yX2_firstFree, Cond.instanceMethod yX2_firstFree, Cond.selects RX2 yX2_firstFree yX2_firstFree, Cond.code yX2_firstFree cX2_firstFree 2 (some (.object "FilledForOne$Kettle")), Cond.methodLink RX2 144 yX2_waitsForOwn, Cond.instanceMethod yX2_waitsForOwn, Cond.selects RX2 yX2_waitsForOwn yX2_waitsForOwn, Cond.code yX2_waitsForOwn cX2_waitsForOwn 3 (some .boolean), Cond.fieldLink RX2 168 "FilledForOne$Kettle" "putOnBy" "I", Cond.methodLink RX2 150 yX2_upTo, Cond.instanceMethod yX2_upTo, Cond.selects RX2 yX2_upTo yX2_upTo, Cond.code yX2_upTo cX2_upTo 4 (some .int), Cond.fieldLink RX2 177 "FilledForOne$Comer" "figure" "I", Cond.methodLink RX2 183 Lib.Math.max.name, Cond.static Lib.Math.max.name, Cond.initialized "java/lang/Math", Cond.code Lib.Math.max.name Lib.Math.max.code 2 (some .int), Cond.methodLink RX2 189 Lib.Math.min.name, Cond.static Lib.Math.min.name, Cond.code Lib.Math.min.name Lib.Math.min.code 2 (some .int), Cond.methodLink RX2 174 yX2_wantsInLine]
def wsX5_drawnDays_r6 : List Cond := [Cond.instanceMethod yX2_wantsInLine, Cond.selects RX2 yX2_wantsInLine yX2_wantsInLine, Cond.code yX2_wantsInLine cX2_wantsInLine 3 (some .int), Cond.methodLink RX2 180 yX2_wantsToCome, Cond.instanceMethod yX2_wantsToCome, Cond.selects RX2 yX2_wantsToCome yX2_wantsToCome, Cond.code yX2_wantsToCome cX2_wantsToCome 4 (some .int), Cond.methodLink RX2 154 yX3_fill, Cond.instanceMethod yX3_fill, Cond.selects RX3 yX3_fill yX3_fill, Cond.code yX3_fill cX3_fill 2 none, Cond.methodLink RX2 157 yX3_putOn, Cond.instanceMethod yX3_putOn, Cond.selects RX3 yX3_putOn yX3_putOn, Cond.code yX3_putOn cX3_putOn 4 none, Cond.fieldLink RX3 24 "FilledForOne$Kettle" "putOnBy" "I", Cond.static yX6_heatingMinutes, Cond.initialized RX6, Cond.code yX6_heatingMinutes cX6_heatingMinutes 4 (some .int), Cond.methodLink RX2 127 yX2_coolDown, Cond.instanceMethod yX2_coolDown, Cond.selects RX2 yX2_coolDown yX2_coolDown, Cond.code yX2_coolDown cX2_coolDown 2 none, Cond.methodLink RX2 171 yX3_cool]
def wsX5_drawnDays_r7 : List Cond := [Cond.instanceMethod yX3_cool, Cond.selects RX3 yX3_cool yX3_cool, Cond.code yX3_cool cX3_cool 2 none, Cond.methodLink RX3 31 Lib.Math.max.name, Cond.methodLink RX5 41 yX2_cost, Cond.instanceMethod yX2_cost, Cond.selects RX2 yX2_cost yX2_cost, Cond.code yX2_cost cX2_cost 1 (some .int), Cond.methodLink RX2 195 yX2_allWaited, Cond.instanceMethod yX2_allWaited, Cond.selects RX2 yX2_allWaited yX2_allWaited, Cond.code yX2_allWaited cX2_allWaited 3 (some .int), Cond.methodLink RX2 192 yX1_waited, Cond.instanceMethod yX1_waited, Cond.selects RX1 yX1_waited yX1_waited, Cond.initialized RX1, Cond.code yX1_waited cX1_waited 1 (some .int), Cond.fieldLink RX1 31 "FilledForOne$Comer" "state" "I", Cond.fieldLink RX1 34 "FilledForOne$Comer" "servedAt" "I", Cond.fieldLink RX1 22 "FilledForOne$Comer" "minute" "I", Cond.fieldLink RX1 28 "FilledForOne$Comer" "patience" "I", Cond.methodLink RX2 198 yX2_cupsLeft, Cond.instanceMethod yX2_cupsLeft, Cond.selects RX2 yX2_cupsLeft yX2_cupsLeft]
def wsX5_drawnDays_r8 : List Cond := [Cond.code yX2_cupsLeft cX2_cupsLeft 3 (some .int), Cond.methodLink RX5 34 yX2_comersWith]
def wsX5_drawnDays : List Cond := .code yX5_drawnDays cX5_drawnDays 8 (some .int) :: ((wsX5_drawnDays_r1 ++ (wsX5_drawnDays_r2 ++ (wsX5_drawnDays_r3 ++ (wsX5_drawnDays_r4 ++ (wsX5_drawnDays_r5 ++ (wsX5_drawnDays_r6 ++ (wsX5_drawnDays_r7 ++ wsX5_drawnDays_r8))))))) ++ wsX50 ++ wsX20 ++ wsX10 ++ wsX30)
def wsX6_init_r1 : List Cond := [Cond.methodLink RX6 1 objectInit, Cond.instanceMethod objectInit, Cond.code objectInit ⟨#[0xb1]⟩ 1 none, Cond.classLink RX6 7 RX2, Cond.instantiable RX2 8, Cond.initialized RX2, Cond.fieldLink RX6 10 "FilledForOne" "now" "LFilledForOne$Day;", Cond.fieldLink RX6 16 "FilledForOne" "kept" "LFilledForOne$Day;", Cond.classLink RX6 19 RX5, Cond.instantiable RX5 2, Cond.initialized RX5, Cond.fieldLink RX6 22 "FilledForOne" "mind" "LFilledForOne$Mind;", Cond.classLink RX6 26 RX0, Cond.instantiable RX0 3, Cond.initialized RX0, Cond.fieldLink RX6 29 "FilledForOne" "arrivals" "LFilledForOne$Arrivals;", Cond.classLink RX6 33 RX4, Cond.instantiable RX4 3, Cond.initialized RX4, Cond.fieldLink RX6 36 "FilledForOne" "letters" "LFilledForOne$Letters;", Cond.arrayClass .int, Cond.fieldLink RX6 40 "FilledForOne" "row" "[I", Cond.fieldLink RX6 44 "FilledForOne" "refusals" "[I", Cond.methodLink RX6 9 yX2_init]
def wsX6_init_r2 : List Cond := [Cond.instanceMethod yX2_init, Cond.code yX2_init cX2_init 2 none, Cond.methodLink RX2 3 objectInit, Cond.methodLink RX2 13 ⟨"[I", "clone", "()Ljava/lang/Object;"⟩, Cond.sameMethod "[I" "java/lang/Object" "clone" "()Ljava/lang/Object;", Cond.native ⟨"java/lang/Object", "clone", "()Ljava/lang/Object;"⟩, Cond.instanceMethod ⟨"java/lang/Object", "clone", "()Ljava/lang/Object;"⟩, Cond.selects "[I" ⟨"[I", "clone", "()Ljava/lang/Object;"⟩ ⟨"java/lang/Object", "clone", "()Ljava/lang/Object;"⟩, Cond.classLink RX2 14 "[I", Cond.fieldLink RX2 18 "FilledForOne$Day" "settings" "[I", Cond.classLink RX2 23 RX1, Cond.fieldLink RX2 25 "FilledForOne$Day" "comers" "[LFilledForOne$Comer;", Cond.instantiable RX1 7, Cond.initialized RX1, Cond.classLink RX2 30 RX3, Cond.fieldLink RX2 32 "FilledForOne$Day" "kettles" "[LFilledForOne$Kettle;", Cond.instantiable RX3 5, Cond.initialized RX3, Cond.fieldLink RX2 37 "FilledForOne$Day" "line" "[I", Cond.instanceMethod yX1_init, Cond.code yX1_init cX1_init 1 none, Cond.methodLink RX1 3 objectInit, Cond.instanceMethod yX3_init, Cond.code yX3_init cX3_init 1 none]
def wsX6_init_r3 : List Cond := [Cond.methodLink RX3 3 objectInit, Cond.methodLink RX6 21 yX5_init, Cond.instanceMethod yX5_init, Cond.code yX5_init cX5_init 1 none, Cond.methodLink RX5 3 objectInit, Cond.classLink RX5 9 RX2, Cond.fieldLink RX5 12 "FilledForOne$Mind" "day" "LFilledForOne$Day;", Cond.methodLink RX5 11 yX2_init, Cond.methodLink RX6 28 yX0_init, Cond.instanceMethod yX0_init, Cond.code yX0_init cX0_init 1 none, Cond.methodLink RX0 3 objectInit, Cond.fieldLink RX0 9 "FilledForOne$Arrivals" "minutes" "[I", Cond.fieldLink RX0 15 "FilledForOne$Arrivals" "wants" "[I", Cond.methodLink RX6 35 yX4_init, Cond.instanceMethod yX4_init, Cond.code yX4_init cX4_init 1 none, Cond.methodLink RX4 3 objectInit, Cond.fieldLink RX4 9 "FilledForOne$Letters" "text" "[I"]
def wsX6_init : List Cond := .code yX6_init cX6_init 1 none :: ((wsX6_init_r1 ++ (wsX6_init_r2 ++ wsX6_init_r3)) ++ wsX20 ++ wsX60 ++ wsX50 ++ wsX00 ++ wsX40 ++ wsX10 ++ wsX30)
def wsX6_refuse : List Cond := .code yX6_refuse cX6_refuse 3 (some .int) :: ([.fieldLink RX6 44 "FilledForOne" "refusals" "[I"] ++ wsX60)
def wsX6_feed : List Cond := .code yX6_feed cX6_feed 2 (some .int) :: ([.fieldLink RX6 36 "FilledForOne" "letters" "LFilledForOne$Letters;", .fieldLink RX6 51 "FilledForOne$Letters" "length" "I", .methodLink RX6 47 yX6_refuse, .instanceMethod yX6_refuse, .selects RX6 yX6_refuse yX6_refuse, .initialized RX6, .code yX6_refuse cX6_refuse 3 (some .int), .fieldLink RX6 44 "FilledForOne" "refusals" "[I", .methodLink RX6 55 yX4_append, .instanceMethod yX4_append, .selects RX4 yX4_append yX4_append, .initialized RX4, .code yX4_append cX4_append 2 (some .int), .fieldLink RX4 15 "FilledForOne$Letters" "length" "I", .fieldLink RX4 9 "FilledForOne$Letters" "text" "[I"] ++ wsX60 ++ wsX40)
def wsX6_office_r1 : List Cond := [Cond.fieldLink RX6 22 "FilledForOne" "mind" "LFilledForOne$Mind;", Cond.fieldLink RX6 10 "FilledForOne" "now" "LFilledForOne$Day;", Cond.fieldLink RX6 36 "FilledForOne" "letters" "LFilledForOne$Letters;", Cond.fieldLink RX6 62 "FilledForOne$Mind" "day" "LFilledForOne$Day;", Cond.fieldLink RX6 51 "FilledForOne$Letters" "length" "I", Cond.methodLink RX6 58 yX5_take, Cond.instanceMethod yX5_take, Cond.selects RX5 yX5_take yX5_take, Cond.initialized RX5, Cond.code yX5_take cX5_take 2 none, Cond.fieldLink RX5 12 "FilledForOne$Mind" "day" "LFilledForOne$Day;", Cond.methodLink RX5 18 yX2_copy, Cond.instanceMethod yX2_copy, Cond.selects RX2 yX2_copy yX2_copy, Cond.initialized RX2, Cond.code yX2_copy cX2_copy 3 none, Cond.fieldLink RX2 18 "FilledForOne$Day" "settings" "[I", Cond.methodLink RX2 40 arraycopyName, Cond.native arraycopyName, Cond.static arraycopyName, Cond.initialized "java/lang/System", Cond.fieldLink RX2 37 "FilledForOne$Day" "line" "[I", Cond.fieldLink RX2 46 "FilledForOne$Day" "known" "I", Cond.fieldLink RX2 50 "FilledForOne$Day" "lined" "I"]
def wsX6_office_r2 : List Cond := [Cond.fieldLink RX2 53 "FilledForOne$Day" "minute" "I", Cond.fieldLink RX2 25 "FilledForOne$Day" "comers" "[LFilledForOne$Comer;", Cond.fieldLink RX2 32 "FilledForOne$Day" "kettles" "[LFilledForOne$Kettle;", Cond.methodLink RX2 56 yX1_copy, Cond.instanceMethod yX1_copy, Cond.selects RX1 yX1_copy yX1_copy, Cond.initialized RX1, Cond.code yX1_copy cX1_copy 2 none, Cond.fieldLink RX1 9 "FilledForOne$Comer" "kind" "I", Cond.fieldLink RX1 15 "FilledForOne$Comer" "figure" "I", Cond.fieldLink RX1 22 "FilledForOne$Comer" "minute" "I", Cond.fieldLink RX1 25 "FilledForOne$Comer" "wants" "I", Cond.fieldLink RX1 28 "FilledForOne$Comer" "patience" "I", Cond.fieldLink RX1 31 "FilledForOne$Comer" "state" "I", Cond.fieldLink RX1 34 "FilledForOne$Comer" "servedAt" "I", Cond.methodLink RX1 18 yX1_become, Cond.instanceMethod yX1_become, Cond.selects RX1 yX1_become yX1_become, Cond.code yX1_become cX1_become 3 none, Cond.methodLink RX2 60 yX3_copy, Cond.instanceMethod yX3_copy, Cond.selects RX3 yX3_copy yX3_copy, Cond.initialized RX3, Cond.code yX3_copy cX3_copy 2 none]
def wsX6_office_r3 : List Cond := [Cond.fieldLink RX3 9 "FilledForOne$Kettle" "level" "I", Cond.fieldLink RX3 15 "FilledForOne$Kettle" "warmth" "I", Cond.fieldLink RX3 18 "FilledForOne$Kettle" "age" "I", Cond.fieldLink RX3 21 "FilledForOne$Kettle" "busyTill" "I", Cond.fieldLink RX3 24 "FilledForOne$Kettle" "putOnBy" "I", Cond.methodLink RX6 65 yX4_read, Cond.instanceMethod yX4_read, Cond.selects RX4 yX4_read yX4_read, Cond.initialized RX4, Cond.code yX4_read cX4_read 4 (some .int), Cond.fieldLink RX4 19 "FilledForOne$Letters" "at" "I", Cond.fieldLink RX4 15 "FilledForOne$Letters" "length" "I", Cond.methodLink RX4 22 yX4_skipStatement, Cond.instanceMethod yX4_skipStatement, Cond.selects RX4 yX4_skipStatement yX4_skipStatement, Cond.code yX4_skipStatement cX4_skipStatement 1 (some .boolean), Cond.methodLink RX4 30 yX4_skip, Cond.instanceMethod yX4_skip, Cond.selects RX4 yX4_skip yX4_skip, Cond.code yX4_skip cX4_skip 3 (some .boolean), Cond.methodLink RX4 38 yX4_letterAt, Cond.instanceMethod yX4_letterAt, Cond.selects RX4 yX4_letterAt yX4_letterAt, Cond.code yX4_letterAt cX4_letterAt 2 (some .int)]
def wsX6_office_r4 : List Cond := [Cond.fieldLink RX4 9 "FilledForOne$Letters" "text" "[I", Cond.methodLink RX4 34 yX4_skipDigits, Cond.instanceMethod yX4_skipDigits, Cond.selects RX4 yX4_skipDigits yX4_skipDigits, Cond.code yX4_skipDigits cX4_skipDigits 3 (some .boolean), Cond.methodLink RX4 26 yX4_carryOut, Cond.instanceMethod yX4_carryOut, Cond.selects RX4 yX4_carryOut yX4_carryOut, Cond.code yX4_carryOut cX4_carryOut 6 (some .boolean), Cond.fieldLink RX4 61 "FilledForOne$Day" "comers" "[LFilledForOne$Comer;", Cond.methodLink RX4 42 yX4_number, Cond.instanceMethod yX4_number, Cond.selects RX4 yX4_number yX4_number, Cond.code yX4_number cX4_number 5 (some .int), Cond.methodLink RX4 46 yX2_settingRefusal, Cond.instanceMethod yX2_settingRefusal, Cond.selects RX2 yX2_settingRefusal yX2_settingRefusal, Cond.code yX2_settingRefusal cX2_settingRefusal 5 (some .int), Cond.methodLink RX2 75 yX2_highestLevel, Cond.instanceMethod yX2_highestLevel, Cond.selects RX2 yX2_highestLevel yX2_highestLevel, Cond.code yX2_highestLevel cX2_highestLevel 3 (some .int), Cond.fieldLink RX2 134 "FilledForOne$Kettle" "level" "I", Cond.methodLink RX2 183 Lib.Math.max.name]
def wsX6_office_r5 : List Cond := [Cond.static Lib.Math.max.name, Cond.initialized "java/lang/Math", Cond.code Lib.Math.max.name Lib.Math.max.code 2 (some .int), Cond.methodLink RX2 98 yX2_kettlesInUse, Cond.instanceMethod yX2_kettlesInUse, Cond.selects RX2 yX2_kettlesInUse yX2_kettlesInUse, Cond.code yX2_kettlesInUse cX2_kettlesInUse 1 (some .int), Cond.methodLink RX4 51 yX2_change, Cond.instanceMethod yX2_change, Cond.selects RX2 yX2_change yX2_change, Cond.code yX2_change cX2_change 4 (some .int), Cond.methodLink RX4 54 yX2_add, Cond.instanceMethod yX2_add, Cond.selects RX2 yX2_add yX2_add, Cond.code yX2_add cX2_add 8 (some .boolean), Cond.fieldLink RX2 83 "FilledForOne$Comer" "minute" "I", Cond.fieldLink RX2 84 "FilledForOne$Comer" "wants" "I", Cond.fieldLink RX2 87 "FilledForOne$Comer" "patience" "I", Cond.fieldLink RX2 63 "FilledForOne$Comer" "state" "I", Cond.methodLink RX2 79 yX1_become, Cond.methodLink RX4 58 yX2_hasComer, Cond.instanceMethod yX2_hasComer, Cond.selects RX2 yX2_hasComer yX2_hasComer, Cond.code yX2_hasComer cX2_hasComer 2 (some .boolean)]
def wsX6_office_r6 : List Cond := [Cond.methodLink RX4 65 yX1_become, Cond.methodLink RX6 69 yX2_copy]
def wsX6_office : List Cond := .code yX6_office cX6_office 2 (some .int) :: ((wsX6_office_r1 ++ (wsX6_office_r2 ++ (wsX6_office_r3 ++ (wsX6_office_r4 ++ (wsX6_office_r5 ++ wsX6_office_r6))))) ++ wsX60 ++ wsX50 ++ wsX40 ++ wsX20 ++ wsX10 ++ wsX30)
def wsX6_comer_r1 : List Cond := [Cond.fieldLink RX6 10 "FilledForOne" "now" "LFilledForOne$Day;", Cond.fieldLink RX6 76 "FilledForOne$Day" "comers" "[LFilledForOne$Comer;", Cond.fieldLink RX6 80 "FilledForOne$Comer" "kind" "I", Cond.methodLink RX6 72 yX2_hasComer, Cond.instanceMethod yX2_hasComer, Cond.selects RX2 yX2_hasComer yX2_hasComer, Cond.initialized RX2, Cond.code yX2_hasComer cX2_hasComer 2 (some .boolean), Cond.fieldLink RX2 46 "FilledForOne$Day" "known" "I", Cond.methodLink RX6 47 yX6_refuse, Cond.instanceMethod yX6_refuse, Cond.selects RX6 yX6_refuse yX6_refuse, Cond.initialized RX6, Cond.code yX6_refuse cX6_refuse 3 (some .int), Cond.fieldLink RX6 44 "FilledForOne" "refusals" "[I", Cond.methodLink RX6 85 yX2_upTo, Cond.instanceMethod yX2_upTo, Cond.selects RX2 yX2_upTo yX2_upTo, Cond.code yX2_upTo cX2_upTo 4 (some .int), Cond.fieldLink RX2 84 "FilledForOne$Comer" "wants" "I", Cond.fieldLink RX2 18 "FilledForOne$Day" "settings" "[I", Cond.fieldLink RX2 53 "FilledForOne$Day" "minute" "I", Cond.fieldLink RX2 177 "FilledForOne$Comer" "figure" "I", Cond.methodLink RX2 183 Lib.Math.max.name]
def wsX6_comer_r2 : List Cond := [Cond.static Lib.Math.max.name, Cond.initialized "java/lang/Math", Cond.code Lib.Math.max.name Lib.Math.max.code 2 (some .int), Cond.methodLink RX2 189 Lib.Math.min.name, Cond.static Lib.Math.min.name, Cond.code Lib.Math.min.name Lib.Math.min.code 2 (some .int), Cond.methodLink RX2 174 yX2_wantsInLine, Cond.instanceMethod yX2_wantsInLine, Cond.selects RX2 yX2_wantsInLine yX2_wantsInLine, Cond.code yX2_wantsInLine cX2_wantsInLine 3 (some .int), Cond.fieldLink RX2 25 "FilledForOne$Day" "comers" "[LFilledForOne$Comer;", Cond.fieldLink RX2 63 "FilledForOne$Comer" "state" "I", Cond.methodLink RX2 180 yX2_wantsToCome, Cond.instanceMethod yX2_wantsToCome, Cond.selects RX2 yX2_wantsToCome yX2_wantsToCome, Cond.code yX2_wantsToCome cX2_wantsToCome 4 (some .int), Cond.fieldLink RX2 83 "FilledForOne$Comer" "minute" "I", Cond.methodLink RX6 89 yX1_tell, Cond.instanceMethod yX1_tell, Cond.selects RX1 yX1_tell yX1_tell, Cond.initialized RX1, Cond.code yX1_tell cX1_tell 2 (some .int), Cond.fieldLink RX1 9 "FilledForOne$Comer" "kind" "I", Cond.fieldLink RX1 15 "FilledForOne$Comer" "figure" "I"]
def wsX6_comer_r3 : List Cond := [Cond.fieldLink RX1 22 "FilledForOne$Comer" "minute" "I", Cond.fieldLink RX1 25 "FilledForOne$Comer" "wants" "I", Cond.fieldLink RX1 28 "FilledForOne$Comer" "patience" "I", Cond.fieldLink RX1 31 "FilledForOne$Comer" "state" "I", Cond.methodLink RX1 37 yX1_waited, Cond.instanceMethod yX1_waited, Cond.selects RX1 yX1_waited yX1_waited, Cond.code yX1_waited cX1_waited 1 (some .int), Cond.fieldLink RX1 34 "FilledForOne$Comer" "servedAt" "I"]
def wsX6_comer : List Cond := .code yX6_comer cX6_comer 4 (some .int) :: ((wsX6_comer_r1 ++ (wsX6_comer_r2 ++ wsX6_comer_r3)) ++ wsX60 ++ wsX20 ++ wsX10)
def wsX6_kind : List Cond := .code yX6_kind cX6_kind 6 (some .int) :: ([.fieldLink RX6 10 "FilledForOne" "now" "LFilledForOne$Day;", .fieldLink RX6 76 "FilledForOne$Day" "comers" "[LFilledForOne$Comer;", .fieldLink RX6 80 "FilledForOne$Comer" "kind" "I", .fieldLink RX6 92 "FilledForOne$Comer" "figure" "I", .methodLink RX6 72 yX2_hasComer, .instanceMethod yX2_hasComer, .selects RX2 yX2_hasComer yX2_hasComer, .initialized RX2, .code yX2_hasComer cX2_hasComer 2 (some .boolean), .fieldLink RX2 46 "FilledForOne$Day" "known" "I", .methodLink RX6 47 yX6_refuse, .instanceMethod yX6_refuse, .selects RX6 yX6_refuse yX6_refuse, .initialized RX6, .code yX6_refuse cX6_refuse 3 (some .int), .fieldLink RX6 44 "FilledForOne" "refusals" "[I", .methodLink RX6 95 yX1_become, .instanceMethod yX1_become, .selects RX1 yX1_become yX1_become, .initialized RX1, .code yX1_become cX1_become 3 none, .fieldLink RX1 9 "FilledForOne$Comer" "kind" "I", .fieldLink RX1 15 "FilledForOne$Comer" "figure" "I"] ++ wsX60 ++ wsX20 ++ wsX10)
def wsX6_kettle_r1 : List Cond := [Cond.fieldLink RX6 10 "FilledForOne" "now" "LFilledForOne$Day;", Cond.fieldLink RX6 103 "FilledForOne$Day" "kettles" "[LFilledForOne$Kettle;", Cond.fieldLink RX6 107 "FilledForOne$Day" "minute" "I", Cond.methodLink RX6 99 yX2_kettlesInUse, Cond.instanceMethod yX2_kettlesInUse, Cond.selects RX2 yX2_kettlesInUse yX2_kettlesInUse, Cond.initialized RX2, Cond.code yX2_kettlesInUse cX2_kettlesInUse 1 (some .int), Cond.fieldLink RX2 18 "FilledForOne$Day" "settings" "[I", Cond.methodLink RX6 47 yX6_refuse, Cond.instanceMethod yX6_refuse, Cond.selects RX6 yX6_refuse yX6_refuse, Cond.initialized RX6, Cond.code yX6_refuse cX6_refuse 3 (some .int), Cond.fieldLink RX6 44 "FilledForOne" "refusals" "[I", Cond.methodLink RX6 110 yX3_tell, Cond.instanceMethod yX3_tell, Cond.selects RX3 yX3_tell yX3_tell, Cond.initialized RX3, Cond.code yX3_tell cX3_tell 3 (some .int), Cond.fieldLink RX3 9 "FilledForOne$Kettle" "level" "I", Cond.fieldLink RX3 15 "FilledForOne$Kettle" "warmth" "I", Cond.fieldLink RX3 18 "FilledForOne$Kettle" "age" "I", Cond.fieldLink RX3 21 "FilledForOne$Kettle" "busyTill" "I"]
def wsX6_kettle_r2 : List Cond := [Cond.methodLink RX3 31 Lib.Math.max.name, Cond.static Lib.Math.max.name, Cond.initialized "java/lang/Math", Cond.code Lib.Math.max.name Lib.Math.max.code 2 (some .int)]
def wsX6_kettle : List Cond := .code yX6_kettle cX6_kettle 3 (some .int) :: ((wsX6_kettle_r1 ++ wsX6_kettle_r2) ++ wsX60 ++ wsX20 ++ wsX30)
def wsX6_set_r1 : List Cond := [Cond.fieldLink RX6 10 "FilledForOne" "now" "LFilledForOne$Day;", Cond.methodLink RX6 115 yX2_settingRefusal, Cond.instanceMethod yX2_settingRefusal, Cond.selects RX2 yX2_settingRefusal yX2_settingRefusal, Cond.initialized RX2, Cond.code yX2_settingRefusal cX2_settingRefusal 5 (some .int), Cond.fieldLink RX2 18 "FilledForOne$Day" "settings" "[I", Cond.fieldLink RX2 53 "FilledForOne$Day" "minute" "I", Cond.methodLink RX2 75 yX2_highestLevel, Cond.instanceMethod yX2_highestLevel, Cond.selects RX2 yX2_highestLevel yX2_highestLevel, Cond.code yX2_highestLevel cX2_highestLevel 3 (some .int), Cond.fieldLink RX2 32 "FilledForOne$Day" "kettles" "[LFilledForOne$Kettle;", Cond.fieldLink RX2 134 "FilledForOne$Kettle" "level" "I", Cond.methodLink RX2 183 Lib.Math.max.name, Cond.static Lib.Math.max.name, Cond.initialized "java/lang/Math", Cond.code Lib.Math.max.name Lib.Math.max.code 2 (some .int), Cond.methodLink RX2 98 yX2_kettlesInUse, Cond.instanceMethod yX2_kettlesInUse, Cond.selects RX2 yX2_kettlesInUse yX2_kettlesInUse, Cond.code yX2_kettlesInUse cX2_kettlesInUse 1 (some .int), Cond.methodLink RX6 47 yX6_refuse, Cond.instanceMethod yX6_refuse]
def wsX6_set_r2 : List Cond := [Cond.selects RX6 yX6_refuse yX6_refuse, Cond.initialized RX6, Cond.code yX6_refuse cX6_refuse 3 (some .int), Cond.fieldLink RX6 44 "FilledForOne" "refusals" "[I", Cond.methodLink RX6 118 yX2_change, Cond.instanceMethod yX2_change, Cond.selects RX2 yX2_change yX2_change, Cond.code yX2_change cX2_change 4 (some .int)]
def wsX6_set : List Cond := .code yX6_set cX6_set 4 (some .int) :: ((wsX6_set_r1 ++ wsX6_set_r2) ++ wsX60 ++ wsX20 ++ wsX30)
def wsX6_go_r1 : List Cond := [Cond.fieldLink RX6 10 "FilledForOne" "now" "LFilledForOne$Day;", Cond.fieldLink RX6 107 "FilledForOne$Day" "minute" "I", Cond.methodLink RX6 47 yX6_refuse, Cond.instanceMethod yX6_refuse, Cond.selects RX6 yX6_refuse yX6_refuse, Cond.initialized RX6, Cond.code yX6_refuse cX6_refuse 3 (some .int), Cond.fieldLink RX6 44 "FilledForOne" "refusals" "[I", Cond.methodLink RX6 121 yX2_isOver, Cond.instanceMethod yX2_isOver, Cond.selects RX2 yX2_isOver yX2_isOver, Cond.initialized RX2, Cond.code yX2_isOver cX2_isOver 1 (some .boolean), Cond.fieldLink RX2 53 "FilledForOne$Day" "minute" "I", Cond.fieldLink RX2 50 "FilledForOne$Day" "lined" "I", Cond.methodLink RX2 90 yX2_comersWith, Cond.instanceMethod yX2_comersWith, Cond.selects RX2 yX2_comersWith yX2_comersWith, Cond.code yX2_comersWith cX2_comersWith 4 (some .int), Cond.fieldLink RX2 46 "FilledForOne$Day" "known" "I", Cond.fieldLink RX2 25 "FilledForOne$Day" "comers" "[LFilledForOne$Comer;", Cond.fieldLink RX2 63 "FilledForOne$Comer" "state" "I", Cond.methodLink RX2 94 yX2_allFree, Cond.instanceMethod yX2_allFree]
def wsX6_go_r2 : List Cond := [Cond.selects RX2 yX2_allFree yX2_allFree, Cond.code yX2_allFree cX2_allFree 2 (some .boolean), Cond.fieldLink RX2 32 "FilledForOne$Day" "kettles" "[LFilledForOne$Kettle;", Cond.methodLink RX2 98 yX2_kettlesInUse, Cond.instanceMethod yX2_kettlesInUse, Cond.selects RX2 yX2_kettlesInUse yX2_kettlesInUse, Cond.code yX2_kettlesInUse cX2_kettlesInUse 1 (some .int), Cond.fieldLink RX2 18 "FilledForOne$Day" "settings" "[I", Cond.methodLink RX2 101 yX3_isFree, Cond.instanceMethod yX3_isFree, Cond.selects RX3 yX3_isFree yX3_isFree, Cond.initialized RX3, Cond.code yX3_isFree cX3_isFree 2 (some .boolean), Cond.fieldLink RX3 21 "FilledForOne$Kettle" "busyTill" "I", Cond.methodLink RX6 125 yX2_pass, Cond.instanceMethod yX2_pass, Cond.selects RX2 yX2_pass yX2_pass, Cond.code yX2_pass cX2_pass 3 none, Cond.methodLink RX2 105 yX2_isOver, Cond.methodLink RX2 108 yX2_passMinute, Cond.instanceMethod yX2_passMinute, Cond.selects RX2 yX2_passMinute yX2_passMinute, Cond.code yX2_passMinute cX2_passMinute 2 none, Cond.fieldLink RX2 37 "FilledForOne$Day" "line" "[I"]
def wsX6_go_r3 : List Cond := [Cond.methodLink RX2 111 yX2_lineUp, Cond.instanceMethod yX2_lineUp, Cond.selects RX2 yX2_lineUp yX2_lineUp, Cond.code yX2_lineUp cX2_lineUp 2 none, Cond.fieldLink RX2 83 "FilledForOne$Comer" "minute" "I", Cond.methodLink RX2 114 yX2_loseImpatient, Cond.instanceMethod yX2_loseImpatient, Cond.selects RX2 yX2_loseImpatient yX2_loseImpatient, Cond.code yX2_loseImpatient cX2_loseImpatient 3 none, Cond.fieldLink RX2 87 "FilledForOne$Comer" "patience" "I", Cond.methodLink RX2 124 yX2_closeUp, Cond.instanceMethod yX2_closeUp, Cond.selects RX2 yX2_closeUp yX2_closeUp, Cond.code yX2_closeUp cX2_closeUp 3 none, Cond.methodLink RX2 117 yX2_serve, Cond.instanceMethod yX2_serve, Cond.selects RX2 yX2_serve yX2_serve, Cond.code yX2_serve cX2_serve 4 (some .boolean), Cond.fieldLink RX2 84 "FilledForOne$Comer" "wants" "I", Cond.fieldLink RX2 134 "FilledForOne$Kettle" "level" "I", Cond.fieldLink RX2 137 "FilledForOne$Comer" "servedAt" "I", Cond.methodLink RX2 130 yX2_firstReady, Cond.instanceMethod yX2_firstReady, Cond.selects RX2 yX2_firstReady yX2_firstReady]
def wsX6_go_r4 : List Cond := [Cond.code yX2_firstReady cX2_firstReady 3 (some (.object "FilledForOne$Kettle")), Cond.methodLink RX2 164 yX3_isReady, Cond.instanceMethod yX3_isReady, Cond.selects RX3 yX3_isReady yX3_isReady, Cond.code yX3_isReady cX3_isReady 3 (some .boolean), Cond.fieldLink RX3 15 "FilledForOne$Kettle" "warmth" "I", Cond.fieldLink RX3 9 "FilledForOne$Kettle" "level" "I", Cond.methodLink RX2 120 yX2_boil, Cond.instanceMethod yX2_boil, Cond.selects RX2 yX2_boil yX2_boil, Cond.code yX2_boil cX2_boil 5 none, Cond.fieldLink RX2 147 "FilledForOne$Comer" "kind" "I", Cond.fieldLink RX2 161 "FilledForOne$Day" "boils" "I", Cond.methodLink RX2 140 yX2_firstFree, Cond.instanceMethod yX2_firstFree, Cond.selects RX2 yX2_firstFree yX2_firstFree, Cond.code yX2_firstFree cX2_firstFree 2 (some (.object "FilledForOne$Kettle")), Cond.methodLink RX2 144 yX2_waitsForOwn, Cond.instanceMethod yX2_waitsForOwn, Cond.selects RX2 yX2_waitsForOwn yX2_waitsForOwn, Cond.code yX2_waitsForOwn cX2_waitsForOwn 3 (some .boolean), Cond.fieldLink RX2 168 "FilledForOne$Kettle" "putOnBy" "I", Cond.methodLink RX2 150 yX2_upTo, Cond.instanceMethod yX2_upTo]
def wsX6_go_r5 : List Cond := [Cond.selects RX2 yX2_upTo yX2_upTo, Cond.code yX2_upTo cX2_upTo 4 (some .int), Cond.fieldLink RX2 177 "FilledForOne$Comer" "figure" "I", Cond.methodLink RX2 183 Lib.Math.max.name, Cond.static Lib.Math.max.name, Cond.initialized "java/lang/Math", Cond.code Lib.Math.max.name Lib.Math.max.code 2 (some .int), Cond.methodLink RX2 189 Lib.Math.min.name, Cond.static Lib.Math.min.name, Cond.code Lib.Math.min.name Lib.Math.min.code 2 (some .int), Cond.methodLink RX2 174 yX2_wantsInLine, Cond.instanceMethod yX2_wantsInLine, Cond.selects RX2 yX2_wantsInLine yX2_wantsInLine, Cond.code yX2_wantsInLine cX2_wantsInLine 3 (some .int), Cond.methodLink RX2 180 yX2_wantsToCome, Cond.instanceMethod yX2_wantsToCome, Cond.selects RX2 yX2_wantsToCome yX2_wantsToCome, Cond.code yX2_wantsToCome cX2_wantsToCome 4 (some .int), Cond.methodLink RX2 154 yX3_fill, Cond.instanceMethod yX3_fill, Cond.selects RX3 yX3_fill yX3_fill, Cond.code yX3_fill cX3_fill 2 none, Cond.methodLink RX2 157 yX3_putOn, Cond.instanceMethod yX3_putOn]
def wsX6_go_r6 : List Cond := [Cond.selects RX3 yX3_putOn yX3_putOn, Cond.code yX3_putOn cX3_putOn 4 none, Cond.fieldLink RX3 18 "FilledForOne$Kettle" "age" "I", Cond.fieldLink RX3 24 "FilledForOne$Kettle" "putOnBy" "I", Cond.static yX6_heatingMinutes, Cond.code yX6_heatingMinutes cX6_heatingMinutes 4 (some .int), Cond.methodLink RX2 127 yX2_coolDown, Cond.instanceMethod yX2_coolDown, Cond.selects RX2 yX2_coolDown yX2_coolDown, Cond.code yX2_coolDown cX2_coolDown 2 none, Cond.methodLink RX2 171 yX3_cool, Cond.instanceMethod yX3_cool, Cond.selects RX3 yX3_cool yX3_cool, Cond.code yX3_cool cX3_cool 2 none, Cond.methodLink RX3 31 Lib.Math.max.name]
def wsX6_go : List Cond := .code yX6_go cX6_go 2 (some .int) :: ((wsX6_go_r1 ++ (wsX6_go_r2 ++ (wsX6_go_r3 ++ (wsX6_go_r4 ++ (wsX6_go_r5 ++ wsX6_go_r6))))) ++ wsX60 ++ wsX20 ++ wsX10 ++ wsX30)
def wsX6_anew : List Cond := .code yX6_anew cX6_anew 2 (some .int) :: ([.fieldLink RX6 10 "FilledForOne" "now" "LFilledForOne$Day;", .fieldLink RX6 107 "FilledForOne$Day" "minute" "I", .methodLink RX6 129 yX2_begin, .instanceMethod yX2_begin, .selects RX2 yX2_begin yX2_begin, .initialized RX2, .code yX2_begin cX2_begin 2 none, .fieldLink RX2 53 "FilledForOne$Day" "minute" "I", .fieldLink RX2 50 "FilledForOne$Day" "lined" "I", .fieldLink RX2 46 "FilledForOne$Day" "known" "I", .fieldLink RX2 25 "FilledForOne$Day" "comers" "[LFilledForOne$Comer;", .fieldLink RX2 63 "FilledForOne$Comer" "state" "I", .fieldLink RX2 32 "FilledForOne$Day" "kettles" "[LFilledForOne$Kettle;", .methodLink RX2 66 yX3_begin, .instanceMethod yX3_begin, .selects RX3 yX3_begin yX3_begin, .initialized RX3, .code yX3_begin cX3_begin 1 none, .fieldLink RX3 9 "FilledForOne$Kettle" "level" "I", .fieldLink RX3 15 "FilledForOne$Kettle" "warmth" "I", .fieldLink RX3 18 "FilledForOne$Kettle" "age" "I", .fieldLink RX3 21 "FilledForOne$Kettle" "busyTill" "I"] ++ wsX60 ++ wsX20 ++ wsX10 ++ wsX30)
def wsX6_line : List Cond := .code yX6_line cX6_line 2 (some .int) :: ([.fieldLink RX6 10 "FilledForOne" "now" "LFilledForOne$Day;", .fieldLink RX6 132 "FilledForOne$Day" "lined" "I", .fieldLink RX6 135 "FilledForOne$Day" "line" "[I", .methodLink RX6 47 yX6_refuse, .instanceMethod yX6_refuse, .selects RX6 yX6_refuse yX6_refuse, .initialized RX6, .code yX6_refuse cX6_refuse 3 (some .int), .fieldLink RX6 44 "FilledForOne" "refusals" "[I"] ++ wsX60 ++ wsX20)
def wsX6_rest_r1 : List Cond := [Cond.fieldLink RX6 22 "FilledForOne" "mind" "LFilledForOne$Mind;", Cond.fieldLink RX6 10 "FilledForOne" "now" "LFilledForOne$Day;", Cond.methodLink RX6 47 yX6_refuse, Cond.instanceMethod yX6_refuse, Cond.selects RX6 yX6_refuse yX6_refuse, Cond.initialized RX6, Cond.code yX6_refuse cX6_refuse 3 (some .int), Cond.fieldLink RX6 44 "FilledForOne" "refusals" "[I", Cond.methodLink RX6 58 yX5_take, Cond.instanceMethod yX5_take, Cond.selects RX5 yX5_take yX5_take, Cond.initialized RX5, Cond.code yX5_take cX5_take 2 none, Cond.fieldLink RX5 12 "FilledForOne$Mind" "day" "LFilledForOne$Day;", Cond.methodLink RX5 18 yX2_copy, Cond.instanceMethod yX2_copy, Cond.selects RX2 yX2_copy yX2_copy, Cond.initialized RX2, Cond.code yX2_copy cX2_copy 3 none, Cond.fieldLink RX2 18 "FilledForOne$Day" "settings" "[I", Cond.methodLink RX2 40 arraycopyName, Cond.native arraycopyName, Cond.static arraycopyName, Cond.initialized "java/lang/System"]
def wsX6_rest_r2 : List Cond := [Cond.fieldLink RX2 37 "FilledForOne$Day" "line" "[I", Cond.fieldLink RX2 46 "FilledForOne$Day" "known" "I", Cond.fieldLink RX2 50 "FilledForOne$Day" "lined" "I", Cond.fieldLink RX2 53 "FilledForOne$Day" "minute" "I", Cond.fieldLink RX2 25 "FilledForOne$Day" "comers" "[LFilledForOne$Comer;", Cond.fieldLink RX2 32 "FilledForOne$Day" "kettles" "[LFilledForOne$Kettle;", Cond.methodLink RX2 56 yX1_copy, Cond.instanceMethod yX1_copy, Cond.selects RX1 yX1_copy yX1_copy, Cond.initialized RX1, Cond.code yX1_copy cX1_copy 2 none, Cond.fieldLink RX1 9 "FilledForOne$Comer" "kind" "I", Cond.fieldLink RX1 15 "FilledForOne$Comer" "figure" "I", Cond.fieldLink RX1 22 "FilledForOne$Comer" "minute" "I", Cond.fieldLink RX1 25 "FilledForOne$Comer" "wants" "I", Cond.fieldLink RX1 28 "FilledForOne$Comer" "patience" "I", Cond.fieldLink RX1 31 "FilledForOne$Comer" "state" "I", Cond.fieldLink RX1 34 "FilledForOne$Comer" "servedAt" "I", Cond.methodLink RX1 18 yX1_become, Cond.instanceMethod yX1_become, Cond.selects RX1 yX1_become yX1_become, Cond.code yX1_become cX1_become 3 none, Cond.methodLink RX2 60 yX3_copy, Cond.instanceMethod yX3_copy]
def wsX6_rest_r3 : List Cond := [Cond.selects RX3 yX3_copy yX3_copy, Cond.initialized RX3, Cond.code yX3_copy cX3_copy 2 none, Cond.fieldLink RX3 9 "FilledForOne$Kettle" "level" "I", Cond.fieldLink RX3 15 "FilledForOne$Kettle" "warmth" "I", Cond.fieldLink RX3 18 "FilledForOne$Kettle" "age" "I", Cond.fieldLink RX3 21 "FilledForOne$Kettle" "busyTill" "I", Cond.fieldLink RX3 24 "FilledForOne$Kettle" "putOnBy" "I", Cond.methodLink RX6 138 yX5_restOfDay, Cond.instanceMethod yX5_restOfDay, Cond.selects RX5 yX5_restOfDay yX5_restOfDay, Cond.code yX5_restOfDay cX5_restOfDay 2 (some .int), Cond.fieldLink RX5 22 "FilledForOne$Day" "boils" "I", Cond.methodLink RX5 26 yX2_pass, Cond.instanceMethod yX2_pass, Cond.selects RX2 yX2_pass yX2_pass, Cond.code yX2_pass cX2_pass 3 none, Cond.methodLink RX2 105 yX2_isOver, Cond.instanceMethod yX2_isOver, Cond.selects RX2 yX2_isOver yX2_isOver, Cond.code yX2_isOver cX2_isOver 1 (some .boolean), Cond.methodLink RX2 90 yX2_comersWith, Cond.instanceMethod yX2_comersWith, Cond.selects RX2 yX2_comersWith yX2_comersWith]
def wsX6_rest_r4 : List Cond := [Cond.code yX2_comersWith cX2_comersWith 4 (some .int), Cond.fieldLink RX2 63 "FilledForOne$Comer" "state" "I", Cond.methodLink RX2 94 yX2_allFree, Cond.instanceMethod yX2_allFree, Cond.selects RX2 yX2_allFree yX2_allFree, Cond.code yX2_allFree cX2_allFree 2 (some .boolean), Cond.methodLink RX2 98 yX2_kettlesInUse, Cond.instanceMethod yX2_kettlesInUse, Cond.selects RX2 yX2_kettlesInUse yX2_kettlesInUse, Cond.code yX2_kettlesInUse cX2_kettlesInUse 1 (some .int), Cond.methodLink RX2 101 yX3_isFree, Cond.instanceMethod yX3_isFree, Cond.selects RX3 yX3_isFree yX3_isFree, Cond.code yX3_isFree cX3_isFree 2 (some .boolean), Cond.methodLink RX2 108 yX2_passMinute, Cond.instanceMethod yX2_passMinute, Cond.selects RX2 yX2_passMinute yX2_passMinute, Cond.code yX2_passMinute cX2_passMinute 2 none, Cond.methodLink RX2 111 yX2_lineUp, Cond.instanceMethod yX2_lineUp, Cond.selects RX2 yX2_lineUp yX2_lineUp, Cond.code yX2_lineUp cX2_lineUp 2 none, Cond.fieldLink RX2 83 "FilledForOne$Comer" "minute" "I", Cond.methodLink RX2 114 yX2_loseImpatient]
def wsX6_rest_r5 : List Cond := [Cond.instanceMethod yX2_loseImpatient, Cond.selects RX2 yX2_loseImpatient yX2_loseImpatient, Cond.code yX2_loseImpatient cX2_loseImpatient 3 none, Cond.fieldLink RX2 87 "FilledForOne$Comer" "patience" "I", Cond.methodLink RX2 124 yX2_closeUp, Cond.instanceMethod yX2_closeUp, Cond.selects RX2 yX2_closeUp yX2_closeUp, Cond.code yX2_closeUp cX2_closeUp 3 none, Cond.methodLink RX2 117 yX2_serve, Cond.instanceMethod yX2_serve, Cond.selects RX2 yX2_serve yX2_serve, Cond.code yX2_serve cX2_serve 4 (some .boolean), Cond.fieldLink RX2 84 "FilledForOne$Comer" "wants" "I", Cond.fieldLink RX2 134 "FilledForOne$Kettle" "level" "I", Cond.fieldLink RX2 137 "FilledForOne$Comer" "servedAt" "I", Cond.methodLink RX2 130 yX2_firstReady, Cond.instanceMethod yX2_firstReady, Cond.selects RX2 yX2_firstReady yX2_firstReady, Cond.code yX2_firstReady cX2_firstReady 3 (some (.object "FilledForOne$Kettle")), Cond.methodLink RX2 164 yX3_isReady, Cond.instanceMethod yX3_isReady, Cond.selects RX3 yX3_isReady yX3_isReady, Cond.code yX3_isReady cX3_isReady 3 (some .boolean), Cond.methodLink RX2 120 yX2_boil]
def wsX6_rest_r6 : List Cond := [Cond.instanceMethod yX2_boil, Cond.selects RX2 yX2_boil yX2_boil, Cond.code yX2_boil cX2_boil 5 none, Cond.fieldLink RX2 147 "FilledForOne$Comer" "kind" "I", Cond.fieldLink RX2 161 "FilledForOne$Day" "boils" "I", Cond.methodLink RX2 140 yX2_firstFree, Cond.instanceMethod yX2_firstFree, Cond.selects RX2 yX2_firstFree yX2_firstFree, Cond.code yX2_firstFree cX2_firstFree 2 (some (.object "FilledForOne$Kettle")), Cond.methodLink RX2 144 yX2_waitsForOwn, Cond.instanceMethod yX2_waitsForOwn, Cond.selects RX2 yX2_waitsForOwn yX2_waitsForOwn, Cond.code yX2_waitsForOwn cX2_waitsForOwn 3 (some .boolean), Cond.fieldLink RX2 168 "FilledForOne$Kettle" "putOnBy" "I", Cond.methodLink RX2 150 yX2_upTo, Cond.instanceMethod yX2_upTo, Cond.selects RX2 yX2_upTo yX2_upTo, Cond.code yX2_upTo cX2_upTo 4 (some .int), Cond.fieldLink RX2 177 "FilledForOne$Comer" "figure" "I", Cond.methodLink RX2 183 Lib.Math.max.name, Cond.static Lib.Math.max.name, Cond.initialized "java/lang/Math", Cond.code Lib.Math.max.name Lib.Math.max.code 2 (some .int), Cond.methodLink RX2 189 Lib.Math.min.name]
def wsX6_rest_r7 : List Cond := [Cond.static Lib.Math.min.name, Cond.code Lib.Math.min.name Lib.Math.min.code 2 (some .int), Cond.methodLink RX2 174 yX2_wantsInLine, Cond.instanceMethod yX2_wantsInLine, Cond.selects RX2 yX2_wantsInLine yX2_wantsInLine, Cond.code yX2_wantsInLine cX2_wantsInLine 3 (some .int), Cond.methodLink RX2 180 yX2_wantsToCome, Cond.instanceMethod yX2_wantsToCome, Cond.selects RX2 yX2_wantsToCome yX2_wantsToCome, Cond.code yX2_wantsToCome cX2_wantsToCome 4 (some .int), Cond.methodLink RX2 154 yX3_fill, Cond.instanceMethod yX3_fill, Cond.selects RX3 yX3_fill yX3_fill, Cond.code yX3_fill cX3_fill 2 none, Cond.methodLink RX2 157 yX3_putOn, Cond.instanceMethod yX3_putOn, Cond.selects RX3 yX3_putOn yX3_putOn, Cond.code yX3_putOn cX3_putOn 4 none, Cond.static yX6_heatingMinutes, Cond.code yX6_heatingMinutes cX6_heatingMinutes 4 (some .int), Cond.methodLink RX2 127 yX2_coolDown, Cond.instanceMethod yX2_coolDown, Cond.selects RX2 yX2_coolDown yX2_coolDown, Cond.code yX2_coolDown cX2_coolDown 2 none]
def wsX6_rest_r8 : List Cond := [Cond.methodLink RX2 171 yX3_cool, Cond.instanceMethod yX3_cool, Cond.selects RX3 yX3_cool yX3_cool, Cond.code yX3_cool cX3_cool 2 none, Cond.methodLink RX3 31 Lib.Math.max.name, Cond.methodLink RX5 30 yX2_allWaited, Cond.instanceMethod yX2_allWaited, Cond.selects RX2 yX2_allWaited yX2_allWaited, Cond.code yX2_allWaited cX2_allWaited 3 (some .int), Cond.methodLink RX2 192 yX1_waited, Cond.instanceMethod yX1_waited, Cond.selects RX1 yX1_waited yX1_waited, Cond.code yX1_waited cX1_waited 1 (some .int), Cond.methodLink RX5 34 yX2_comersWith, Cond.methodLink RX5 38 yX2_cupsLeft, Cond.instanceMethod yX2_cupsLeft, Cond.selects RX2 yX2_cupsLeft yX2_cupsLeft, Cond.code yX2_cupsLeft cX2_cupsLeft 3 (some .int), Cond.methodLink RX5 41 yX2_cost, Cond.instanceMethod yX2_cost, Cond.selects RX2 yX2_cost yX2_cost, Cond.code yX2_cost cX2_cost 1 (some .int), Cond.methodLink RX2 195 yX2_allWaited, Cond.methodLink RX2 198 yX2_cupsLeft]
def wsX6_rest : List Cond := .code yX6_rest cX6_rest 2 (some .int) :: ((wsX6_rest_r1 ++ (wsX6_rest_r2 ++ (wsX6_rest_r3 ++ (wsX6_rest_r4 ++ (wsX6_rest_r5 ++ (wsX6_rest_r6 ++ (wsX6_rest_r7 ++ wsX6_rest_r8))))))) ++ wsX60 ++ wsX50 ++ wsX20 ++ wsX10 ++ wsX30)
def wsX6_when_r1 : List Cond := [Cond.fieldLink RX6 10 "FilledForOne" "now" "LFilledForOne$Day;", Cond.fieldLink RX6 22 "FilledForOne" "mind" "LFilledForOne$Mind;", Cond.methodLink RX6 72 yX2_hasComer, Cond.instanceMethod yX2_hasComer, Cond.selects RX2 yX2_hasComer yX2_hasComer, Cond.initialized RX2, Cond.code yX2_hasComer cX2_hasComer 2 (some .boolean), Cond.fieldLink RX2 46 "FilledForOne$Day" "known" "I", Cond.methodLink RX6 47 yX6_refuse, Cond.instanceMethod yX6_refuse, Cond.selects RX6 yX6_refuse yX6_refuse, Cond.initialized RX6, Cond.code yX6_refuse cX6_refuse 3 (some .int), Cond.fieldLink RX6 44 "FilledForOne" "refusals" "[I", Cond.methodLink RX6 58 yX5_take, Cond.instanceMethod yX5_take, Cond.selects RX5 yX5_take yX5_take, Cond.initialized RX5, Cond.code yX5_take cX5_take 2 none, Cond.fieldLink RX5 12 "FilledForOne$Mind" "day" "LFilledForOne$Day;", Cond.methodLink RX5 18 yX2_copy, Cond.instanceMethod yX2_copy, Cond.selects RX2 yX2_copy yX2_copy, Cond.code yX2_copy cX2_copy 3 none]
def wsX6_when_r2 : List Cond := [Cond.fieldLink RX2 18 "FilledForOne$Day" "settings" "[I", Cond.methodLink RX2 40 arraycopyName, Cond.native arraycopyName, Cond.static arraycopyName, Cond.initialized "java/lang/System", Cond.fieldLink RX2 37 "FilledForOne$Day" "line" "[I", Cond.fieldLink RX2 50 "FilledForOne$Day" "lined" "I", Cond.fieldLink RX2 53 "FilledForOne$Day" "minute" "I", Cond.fieldLink RX2 25 "FilledForOne$Day" "comers" "[LFilledForOne$Comer;", Cond.fieldLink RX2 32 "FilledForOne$Day" "kettles" "[LFilledForOne$Kettle;", Cond.methodLink RX2 56 yX1_copy, Cond.instanceMethod yX1_copy, Cond.selects RX1 yX1_copy yX1_copy, Cond.initialized RX1, Cond.code yX1_copy cX1_copy 2 none, Cond.fieldLink RX1 9 "FilledForOne$Comer" "kind" "I", Cond.fieldLink RX1 15 "FilledForOne$Comer" "figure" "I", Cond.fieldLink RX1 22 "FilledForOne$Comer" "minute" "I", Cond.fieldLink RX1 25 "FilledForOne$Comer" "wants" "I", Cond.fieldLink RX1 28 "FilledForOne$Comer" "patience" "I", Cond.fieldLink RX1 31 "FilledForOne$Comer" "state" "I", Cond.fieldLink RX1 34 "FilledForOne$Comer" "servedAt" "I", Cond.methodLink RX1 18 yX1_become, Cond.instanceMethod yX1_become]
def wsX6_when_r3 : List Cond := [Cond.selects RX1 yX1_become yX1_become, Cond.code yX1_become cX1_become 3 none, Cond.methodLink RX2 60 yX3_copy, Cond.instanceMethod yX3_copy, Cond.selects RX3 yX3_copy yX3_copy, Cond.initialized RX3, Cond.code yX3_copy cX3_copy 2 none, Cond.fieldLink RX3 9 "FilledForOne$Kettle" "level" "I", Cond.fieldLink RX3 15 "FilledForOne$Kettle" "warmth" "I", Cond.fieldLink RX3 18 "FilledForOne$Kettle" "age" "I", Cond.fieldLink RX3 21 "FilledForOne$Kettle" "busyTill" "I", Cond.fieldLink RX3 24 "FilledForOne$Kettle" "putOnBy" "I", Cond.methodLink RX6 141 yX5_servedAt, Cond.instanceMethod yX5_servedAt, Cond.selects RX5 yX5_servedAt yX5_servedAt, Cond.code yX5_servedAt cX5_servedAt 3 (some .int), Cond.fieldLink RX5 44 "FilledForOne$Day" "comers" "[LFilledForOne$Comer;", Cond.fieldLink RX5 48 "FilledForOne$Comer" "state" "I", Cond.fieldLink RX5 53 "FilledForOne$Comer" "servedAt" "I", Cond.methodLink RX5 26 yX2_pass, Cond.instanceMethod yX2_pass, Cond.selects RX2 yX2_pass yX2_pass, Cond.code yX2_pass cX2_pass 3 none, Cond.methodLink RX2 105 yX2_isOver]
def wsX6_when_r4 : List Cond := [Cond.instanceMethod yX2_isOver, Cond.selects RX2 yX2_isOver yX2_isOver, Cond.code yX2_isOver cX2_isOver 1 (some .boolean), Cond.methodLink RX2 90 yX2_comersWith, Cond.instanceMethod yX2_comersWith, Cond.selects RX2 yX2_comersWith yX2_comersWith, Cond.code yX2_comersWith cX2_comersWith 4 (some .int), Cond.fieldLink RX2 63 "FilledForOne$Comer" "state" "I", Cond.methodLink RX2 94 yX2_allFree, Cond.instanceMethod yX2_allFree, Cond.selects RX2 yX2_allFree yX2_allFree, Cond.code yX2_allFree cX2_allFree 2 (some .boolean), Cond.methodLink RX2 98 yX2_kettlesInUse, Cond.instanceMethod yX2_kettlesInUse, Cond.selects RX2 yX2_kettlesInUse yX2_kettlesInUse, Cond.code yX2_kettlesInUse cX2_kettlesInUse 1 (some .int), Cond.methodLink RX2 101 yX3_isFree, Cond.instanceMethod yX3_isFree, Cond.selects RX3 yX3_isFree yX3_isFree, Cond.code yX3_isFree cX3_isFree 2 (some .boolean), Cond.methodLink RX2 108 yX2_passMinute, Cond.instanceMethod yX2_passMinute, Cond.selects RX2 yX2_passMinute yX2_passMinute, Cond.code yX2_passMinute cX2_passMinute 2 none]
def wsX6_when_r5 : List Cond := [Cond.methodLink RX2 111 yX2_lineUp, Cond.instanceMethod yX2_lineUp, Cond.selects RX2 yX2_lineUp yX2_lineUp, Cond.code yX2_lineUp cX2_lineUp 2 none, Cond.fieldLink RX2 83 "FilledForOne$Comer" "minute" "I", Cond.methodLink RX2 114 yX2_loseImpatient, Cond.instanceMethod yX2_loseImpatient, Cond.selects RX2 yX2_loseImpatient yX2_loseImpatient, Cond.code yX2_loseImpatient cX2_loseImpatient 3 none, Cond.fieldLink RX2 87 "FilledForOne$Comer" "patience" "I", Cond.methodLink RX2 124 yX2_closeUp, Cond.instanceMethod yX2_closeUp, Cond.selects RX2 yX2_closeUp yX2_closeUp, Cond.code yX2_closeUp cX2_closeUp 3 none, Cond.methodLink RX2 117 yX2_serve, Cond.instanceMethod yX2_serve, Cond.selects RX2 yX2_serve yX2_serve, Cond.code yX2_serve cX2_serve 4 (some .boolean), Cond.fieldLink RX2 84 "FilledForOne$Comer" "wants" "I", Cond.fieldLink RX2 134 "FilledForOne$Kettle" "level" "I", Cond.fieldLink RX2 137 "FilledForOne$Comer" "servedAt" "I", Cond.methodLink RX2 130 yX2_firstReady, Cond.instanceMethod yX2_firstReady, Cond.selects RX2 yX2_firstReady yX2_firstReady]
def wsX6_when_r6 : List Cond := [Cond.code yX2_firstReady cX2_firstReady 3 (some (.object "FilledForOne$Kettle")), Cond.methodLink RX2 164 yX3_isReady, Cond.instanceMethod yX3_isReady, Cond.selects RX3 yX3_isReady yX3_isReady, Cond.code yX3_isReady cX3_isReady 3 (some .boolean), Cond.methodLink RX2 120 yX2_boil, Cond.instanceMethod yX2_boil, Cond.selects RX2 yX2_boil yX2_boil, Cond.code yX2_boil cX2_boil 5 none, Cond.fieldLink RX2 147 "FilledForOne$Comer" "kind" "I", Cond.fieldLink RX2 161 "FilledForOne$Day" "boils" "I", Cond.methodLink RX2 140 yX2_firstFree, Cond.instanceMethod yX2_firstFree, Cond.selects RX2 yX2_firstFree yX2_firstFree, Cond.code yX2_firstFree cX2_firstFree 2 (some (.object "FilledForOne$Kettle")), Cond.methodLink RX2 144 yX2_waitsForOwn, Cond.instanceMethod yX2_waitsForOwn, Cond.selects RX2 yX2_waitsForOwn yX2_waitsForOwn, Cond.code yX2_waitsForOwn cX2_waitsForOwn 3 (some .boolean), Cond.fieldLink RX2 168 "FilledForOne$Kettle" "putOnBy" "I", Cond.methodLink RX2 150 yX2_upTo, Cond.instanceMethod yX2_upTo, Cond.selects RX2 yX2_upTo yX2_upTo, Cond.code yX2_upTo cX2_upTo 4 (some .int)]
def wsX6_when_r7 : List Cond := [Cond.fieldLink RX2 177 "FilledForOne$Comer" "figure" "I", Cond.methodLink RX2 183 Lib.Math.max.name, Cond.static Lib.Math.max.name, Cond.initialized "java/lang/Math", Cond.code Lib.Math.max.name Lib.Math.max.code 2 (some .int), Cond.methodLink RX2 189 Lib.Math.min.name, Cond.static Lib.Math.min.name, Cond.code Lib.Math.min.name Lib.Math.min.code 2 (some .int), Cond.methodLink RX2 174 yX2_wantsInLine, Cond.instanceMethod yX2_wantsInLine, Cond.selects RX2 yX2_wantsInLine yX2_wantsInLine, Cond.code yX2_wantsInLine cX2_wantsInLine 3 (some .int), Cond.methodLink RX2 180 yX2_wantsToCome, Cond.instanceMethod yX2_wantsToCome, Cond.selects RX2 yX2_wantsToCome yX2_wantsToCome, Cond.code yX2_wantsToCome cX2_wantsToCome 4 (some .int), Cond.methodLink RX2 154 yX3_fill, Cond.instanceMethod yX3_fill, Cond.selects RX3 yX3_fill yX3_fill, Cond.code yX3_fill cX3_fill 2 none, Cond.methodLink RX2 157 yX3_putOn, Cond.instanceMethod yX3_putOn, Cond.selects RX3 yX3_putOn yX3_putOn, Cond.code yX3_putOn cX3_putOn 4 none]
def wsX6_when_r8 : List Cond := [Cond.static yX6_heatingMinutes, Cond.code yX6_heatingMinutes cX6_heatingMinutes 4 (some .int), Cond.methodLink RX2 127 yX2_coolDown, Cond.instanceMethod yX2_coolDown, Cond.selects RX2 yX2_coolDown yX2_coolDown, Cond.code yX2_coolDown cX2_coolDown 2 none, Cond.methodLink RX2 171 yX3_cool, Cond.instanceMethod yX3_cool, Cond.selects RX3 yX3_cool yX3_cool, Cond.code yX3_cool cX3_cool 2 none, Cond.methodLink RX3 31 Lib.Math.max.name]
def wsX6_when : List Cond := .code yX6_when cX6_when 2 (some .int) :: ((wsX6_when_r1 ++ (wsX6_when_r2 ++ (wsX6_when_r3 ++ (wsX6_when_r4 ++ (wsX6_when_r5 ++ (wsX6_when_r6 ++ (wsX6_when_r7 ++ wsX6_when_r8))))))) ++ wsX60 ++ wsX20 ++ wsX50 ++ wsX10 ++ wsX30)
def wsX6_best_r1 : List Cond := [Cond.fieldLink RX6 10 "FilledForOne" "now" "LFilledForOne$Day;", Cond.fieldLink RX6 22 "FilledForOne" "mind" "LFilledForOne$Mind;", Cond.methodLink RX6 72 yX2_hasComer, Cond.instanceMethod yX2_hasComer, Cond.selects RX2 yX2_hasComer yX2_hasComer, Cond.initialized RX2, Cond.code yX2_hasComer cX2_hasComer 2 (some .boolean), Cond.fieldLink RX2 46 "FilledForOne$Day" "known" "I", Cond.methodLink RX6 47 yX6_refuse, Cond.instanceMethod yX6_refuse, Cond.selects RX6 yX6_refuse yX6_refuse, Cond.initialized RX6, Cond.code yX6_refuse cX6_refuse 3 (some .int), Cond.fieldLink RX6 44 "FilledForOne" "refusals" "[I", Cond.methodLink RX6 58 yX5_take, Cond.instanceMethod yX5_take, Cond.selects RX5 yX5_take yX5_take, Cond.initialized RX5, Cond.code yX5_take cX5_take 2 none, Cond.fieldLink RX5 12 "FilledForOne$Mind" "day" "LFilledForOne$Day;", Cond.methodLink RX5 18 yX2_copy, Cond.instanceMethod yX2_copy, Cond.selects RX2 yX2_copy yX2_copy, Cond.code yX2_copy cX2_copy 3 none]
def wsX6_best_r2 : List Cond := [Cond.fieldLink RX2 18 "FilledForOne$Day" "settings" "[I", Cond.methodLink RX2 40 arraycopyName, Cond.native arraycopyName, Cond.static arraycopyName, Cond.initialized "java/lang/System", Cond.fieldLink RX2 37 "FilledForOne$Day" "line" "[I", Cond.fieldLink RX2 50 "FilledForOne$Day" "lined" "I", Cond.fieldLink RX2 53 "FilledForOne$Day" "minute" "I", Cond.fieldLink RX2 25 "FilledForOne$Day" "comers" "[LFilledForOne$Comer;", Cond.fieldLink RX2 32 "FilledForOne$Day" "kettles" "[LFilledForOne$Kettle;", Cond.methodLink RX2 56 yX1_copy, Cond.instanceMethod yX1_copy, Cond.selects RX1 yX1_copy yX1_copy, Cond.initialized RX1, Cond.code yX1_copy cX1_copy 2 none, Cond.fieldLink RX1 9 "FilledForOne$Comer" "kind" "I", Cond.fieldLink RX1 15 "FilledForOne$Comer" "figure" "I", Cond.fieldLink RX1 22 "FilledForOne$Comer" "minute" "I", Cond.fieldLink RX1 25 "FilledForOne$Comer" "wants" "I", Cond.fieldLink RX1 28 "FilledForOne$Comer" "patience" "I", Cond.fieldLink RX1 31 "FilledForOne$Comer" "state" "I", Cond.fieldLink RX1 34 "FilledForOne$Comer" "servedAt" "I", Cond.methodLink RX1 18 yX1_become, Cond.instanceMethod yX1_become]
def wsX6_best_r3 : List Cond := [Cond.selects RX1 yX1_become yX1_become, Cond.code yX1_become cX1_become 3 none, Cond.methodLink RX2 60 yX3_copy, Cond.instanceMethod yX3_copy, Cond.selects RX3 yX3_copy yX3_copy, Cond.initialized RX3, Cond.code yX3_copy cX3_copy 2 none, Cond.fieldLink RX3 9 "FilledForOne$Kettle" "level" "I", Cond.fieldLink RX3 15 "FilledForOne$Kettle" "warmth" "I", Cond.fieldLink RX3 18 "FilledForOne$Kettle" "age" "I", Cond.fieldLink RX3 21 "FilledForOne$Kettle" "busyTill" "I", Cond.fieldLink RX3 24 "FilledForOne$Kettle" "putOnBy" "I", Cond.methodLink RX6 144 yX5_bestKind, Cond.instanceMethod yX5_bestKind, Cond.selects RX5 yX5_bestKind yX5_bestKind, Cond.code yX5_bestKind cX5_bestKind 9 (some .int), Cond.fieldLink RX5 44 "FilledForOne$Day" "comers" "[LFilledForOne$Comer;", Cond.fieldLink RX5 66 "FilledForOne$Comer" "kind" "I", Cond.constant RX5 71 (2147483647), Cond.fieldLink RX5 48 "FilledForOne$Comer" "state" "I", Cond.methodLink RX5 72 yX5_costAnew, Cond.instanceMethod yX5_costAnew, Cond.selects RX5 yX5_costAnew yX5_costAnew, Cond.code yX5_costAnew cX5_costAnew 2 (some .int)]
def wsX6_best_r4 : List Cond := [Cond.methodLink RX5 56 yX2_begin, Cond.instanceMethod yX2_begin, Cond.selects RX2 yX2_begin yX2_begin, Cond.code yX2_begin cX2_begin 2 none, Cond.fieldLink RX2 63 "FilledForOne$Comer" "state" "I", Cond.methodLink RX2 66 yX3_begin, Cond.instanceMethod yX3_begin, Cond.selects RX3 yX3_begin yX3_begin, Cond.code yX3_begin cX3_begin 1 none, Cond.methodLink RX5 59 yX2_isOver, Cond.instanceMethod yX2_isOver, Cond.selects RX2 yX2_isOver yX2_isOver, Cond.code yX2_isOver cX2_isOver 1 (some .boolean), Cond.methodLink RX2 90 yX2_comersWith, Cond.instanceMethod yX2_comersWith, Cond.selects RX2 yX2_comersWith yX2_comersWith, Cond.code yX2_comersWith cX2_comersWith 4 (some .int), Cond.methodLink RX2 94 yX2_allFree, Cond.instanceMethod yX2_allFree, Cond.selects RX2 yX2_allFree yX2_allFree, Cond.code yX2_allFree cX2_allFree 2 (some .boolean), Cond.methodLink RX2 98 yX2_kettlesInUse, Cond.instanceMethod yX2_kettlesInUse, Cond.selects RX2 yX2_kettlesInUse yX2_kettlesInUse]
def wsX6_best_r5 : List Cond := [Cond.code yX2_kettlesInUse cX2_kettlesInUse 1 (some .int), Cond.methodLink RX2 101 yX3_isFree, Cond.instanceMethod yX3_isFree, Cond.selects RX3 yX3_isFree yX3_isFree, Cond.code yX3_isFree cX3_isFree 2 (some .boolean), Cond.methodLink RX5 63 yX2_passMinute, Cond.instanceMethod yX2_passMinute, Cond.selects RX2 yX2_passMinute yX2_passMinute, Cond.code yX2_passMinute cX2_passMinute 2 none, Cond.methodLink RX2 111 yX2_lineUp, Cond.instanceMethod yX2_lineUp, Cond.selects RX2 yX2_lineUp yX2_lineUp, Cond.code yX2_lineUp cX2_lineUp 2 none, Cond.fieldLink RX2 83 "FilledForOne$Comer" "minute" "I", Cond.methodLink RX2 114 yX2_loseImpatient, Cond.instanceMethod yX2_loseImpatient, Cond.selects RX2 yX2_loseImpatient yX2_loseImpatient, Cond.code yX2_loseImpatient cX2_loseImpatient 3 none, Cond.fieldLink RX2 87 "FilledForOne$Comer" "patience" "I", Cond.methodLink RX2 124 yX2_closeUp, Cond.instanceMethod yX2_closeUp, Cond.selects RX2 yX2_closeUp yX2_closeUp, Cond.code yX2_closeUp cX2_closeUp 3 none, Cond.methodLink RX2 117 yX2_serve]
def wsX6_best_r6 : List Cond := [Cond.instanceMethod yX2_serve, Cond.selects RX2 yX2_serve yX2_serve, Cond.code yX2_serve cX2_serve 4 (some .boolean), Cond.fieldLink RX2 84 "FilledForOne$Comer" "wants" "I", Cond.fieldLink RX2 134 "FilledForOne$Kettle" "level" "I", Cond.fieldLink RX2 137 "FilledForOne$Comer" "servedAt" "I", Cond.methodLink RX2 130 yX2_firstReady, Cond.instanceMethod yX2_firstReady, Cond.selects RX2 yX2_firstReady yX2_firstReady, Cond.code yX2_firstReady cX2_firstReady 3 (some (.object "FilledForOne$Kettle")), Cond.methodLink RX2 164 yX3_isReady, Cond.instanceMethod yX3_isReady, Cond.selects RX3 yX3_isReady yX3_isReady, Cond.code yX3_isReady cX3_isReady 3 (some .boolean), Cond.methodLink RX2 120 yX2_boil, Cond.instanceMethod yX2_boil, Cond.selects RX2 yX2_boil yX2_boil, Cond.code yX2_boil cX2_boil 5 none, Cond.fieldLink RX2 147 "FilledForOne$Comer" "kind" "I", Cond.fieldLink RX2 161 "FilledForOne$Day" "boils" "I", Cond.methodLink RX2 140 yX2_firstFree, Cond.instanceMethod yX2_firstFree, Cond.selects RX2 yX2_firstFree yX2_firstFree, Cond.code yX2_firstFree cX2_firstFree 2 (some (.object "FilledForOne$Kettle"))]
def wsX6_best_r7 : List Cond := [Cond.methodLink RX2 144 yX2_waitsForOwn, Cond.instanceMethod yX2_waitsForOwn, Cond.selects RX2 yX2_waitsForOwn yX2_waitsForOwn, Cond.code yX2_waitsForOwn cX2_waitsForOwn 3 (some .boolean), Cond.fieldLink RX2 168 "FilledForOne$Kettle" "putOnBy" "I", Cond.methodLink RX2 150 yX2_upTo, Cond.instanceMethod yX2_upTo, Cond.selects RX2 yX2_upTo yX2_upTo, Cond.code yX2_upTo cX2_upTo 4 (some .int), Cond.fieldLink RX2 177 "FilledForOne$Comer" "figure" "I", Cond.methodLink RX2 183 Lib.Math.max.name, Cond.static Lib.Math.max.name, Cond.initialized "java/lang/Math", Cond.code Lib.Math.max.name Lib.Math.max.code 2 (some .int), Cond.methodLink RX2 189 Lib.Math.min.name, Cond.static Lib.Math.min.name, Cond.code Lib.Math.min.name Lib.Math.min.code 2 (some .int), Cond.methodLink RX2 174 yX2_wantsInLine, Cond.instanceMethod yX2_wantsInLine, Cond.selects RX2 yX2_wantsInLine yX2_wantsInLine, Cond.code yX2_wantsInLine cX2_wantsInLine 3 (some .int), Cond.methodLink RX2 180 yX2_wantsToCome, Cond.instanceMethod yX2_wantsToCome, Cond.selects RX2 yX2_wantsToCome yX2_wantsToCome]
def wsX6_best_r8 : List Cond := [Cond.code yX2_wantsToCome cX2_wantsToCome 4 (some .int), Cond.methodLink RX2 154 yX3_fill, Cond.instanceMethod yX3_fill, Cond.selects RX3 yX3_fill yX3_fill, Cond.code yX3_fill cX3_fill 2 none, Cond.methodLink RX2 157 yX3_putOn, Cond.instanceMethod yX3_putOn, Cond.selects RX3 yX3_putOn yX3_putOn, Cond.code yX3_putOn cX3_putOn 4 none, Cond.static yX6_heatingMinutes, Cond.code yX6_heatingMinutes cX6_heatingMinutes 4 (some .int), Cond.methodLink RX2 127 yX2_coolDown, Cond.instanceMethod yX2_coolDown, Cond.selects RX2 yX2_coolDown yX2_coolDown, Cond.code yX2_coolDown cX2_coolDown 2 none, Cond.methodLink RX2 171 yX3_cool, Cond.instanceMethod yX3_cool, Cond.selects RX3 yX3_cool yX3_cool, Cond.code yX3_cool cX3_cool 2 none, Cond.methodLink RX3 31 Lib.Math.max.name, Cond.methodLink RX5 41 yX2_cost, Cond.instanceMethod yX2_cost, Cond.selects RX2 yX2_cost yX2_cost, Cond.code yX2_cost cX2_cost 1 (some .int)]
def wsX6_best_r9 : List Cond := [Cond.methodLink RX2 195 yX2_allWaited, Cond.instanceMethod yX2_allWaited, Cond.selects RX2 yX2_allWaited yX2_allWaited, Cond.code yX2_allWaited cX2_allWaited 3 (some .int), Cond.methodLink RX2 192 yX1_waited, Cond.instanceMethod yX1_waited, Cond.selects RX1 yX1_waited yX1_waited, Cond.code yX1_waited cX1_waited 1 (some .int), Cond.methodLink RX2 198 yX2_cupsLeft, Cond.instanceMethod yX2_cupsLeft, Cond.selects RX2 yX2_cupsLeft yX2_cupsLeft, Cond.code yX2_cupsLeft cX2_cupsLeft 3 (some .int), Cond.methodLink RX5 75 yX1_waited]
def wsX6_best : List Cond := .code yX6_best cX6_best 3 (some .int) :: ((wsX6_best_r1 ++ (wsX6_best_r2 ++ (wsX6_best_r3 ++ (wsX6_best_r4 ++ (wsX6_best_r5 ++ (wsX6_best_r6 ++ (wsX6_best_r7 ++ (wsX6_best_r8 ++ wsX6_best_r9)))))))) ++ wsX60 ++ wsX20 ++ wsX50 ++ wsX10 ++ wsX30)
def wsX6_rounds_r1 : List Cond := [Cond.constant RX6 148 (1000000000), Cond.fieldLink RX6 22 "FilledForOne" "mind" "LFilledForOne$Mind;", Cond.fieldLink RX6 10 "FilledForOne" "now" "LFilledForOne$Day;", Cond.methodLink RX6 47 yX6_refuse, Cond.instanceMethod yX6_refuse, Cond.selects RX6 yX6_refuse yX6_refuse, Cond.initialized RX6, Cond.code yX6_refuse cX6_refuse 3 (some .int), Cond.fieldLink RX6 44 "FilledForOne" "refusals" "[I", Cond.methodLink RX6 58 yX5_take, Cond.instanceMethod yX5_take, Cond.selects RX5 yX5_take yX5_take, Cond.initialized RX5, Cond.code yX5_take cX5_take 2 none, Cond.fieldLink RX5 12 "FilledForOne$Mind" "day" "LFilledForOne$Day;", Cond.methodLink RX5 18 yX2_copy, Cond.instanceMethod yX2_copy, Cond.selects RX2 yX2_copy yX2_copy, Cond.initialized RX2, Cond.code yX2_copy cX2_copy 3 none, Cond.fieldLink RX2 18 "FilledForOne$Day" "settings" "[I", Cond.methodLink RX2 40 arraycopyName, Cond.native arraycopyName, Cond.static arraycopyName]
def wsX6_rounds_r2 : List Cond := [Cond.initialized "java/lang/System", Cond.fieldLink RX2 37 "FilledForOne$Day" "line" "[I", Cond.fieldLink RX2 46 "FilledForOne$Day" "known" "I", Cond.fieldLink RX2 50 "FilledForOne$Day" "lined" "I", Cond.fieldLink RX2 53 "FilledForOne$Day" "minute" "I", Cond.fieldLink RX2 25 "FilledForOne$Day" "comers" "[LFilledForOne$Comer;", Cond.fieldLink RX2 32 "FilledForOne$Day" "kettles" "[LFilledForOne$Kettle;", Cond.methodLink RX2 56 yX1_copy, Cond.instanceMethod yX1_copy, Cond.selects RX1 yX1_copy yX1_copy, Cond.initialized RX1, Cond.code yX1_copy cX1_copy 2 none, Cond.fieldLink RX1 9 "FilledForOne$Comer" "kind" "I", Cond.fieldLink RX1 15 "FilledForOne$Comer" "figure" "I", Cond.fieldLink RX1 22 "FilledForOne$Comer" "minute" "I", Cond.fieldLink RX1 25 "FilledForOne$Comer" "wants" "I", Cond.fieldLink RX1 28 "FilledForOne$Comer" "patience" "I", Cond.fieldLink RX1 31 "FilledForOne$Comer" "state" "I", Cond.fieldLink RX1 34 "FilledForOne$Comer" "servedAt" "I", Cond.methodLink RX1 18 yX1_become, Cond.instanceMethod yX1_become, Cond.selects RX1 yX1_become yX1_become, Cond.code yX1_become cX1_become 3 none, Cond.methodLink RX2 60 yX3_copy]
def wsX6_rounds_r3 : List Cond := [Cond.instanceMethod yX3_copy, Cond.selects RX3 yX3_copy yX3_copy, Cond.initialized RX3, Cond.code yX3_copy cX3_copy 2 none, Cond.fieldLink RX3 9 "FilledForOne$Kettle" "level" "I", Cond.fieldLink RX3 15 "FilledForOne$Kettle" "warmth" "I", Cond.fieldLink RX3 18 "FilledForOne$Kettle" "age" "I", Cond.fieldLink RX3 21 "FilledForOne$Kettle" "busyTill" "I", Cond.fieldLink RX3 24 "FilledForOne$Kettle" "putOnBy" "I", Cond.methodLink RX6 149 yX5_playRounds, Cond.instanceMethod yX5_playRounds, Cond.selects RX5 yX5_playRounds yX5_playRounds, Cond.code yX5_playRounds cX5_playRounds 5 (some .int), Cond.fieldLink RX5 78 "FilledForOne$Day" "known" "I", Cond.fieldLink RX5 44 "FilledForOne$Day" "comers" "[LFilledForOne$Comer;", Cond.fieldLink RX5 66 "FilledForOne$Comer" "kind" "I", Cond.methodLink RX5 81 yX5_bestKind, Cond.instanceMethod yX5_bestKind, Cond.selects RX5 yX5_bestKind yX5_bestKind, Cond.code yX5_bestKind cX5_bestKind 9 (some .int), Cond.constant RX5 71 (2147483647), Cond.fieldLink RX5 48 "FilledForOne$Comer" "state" "I", Cond.methodLink RX5 72 yX5_costAnew, Cond.instanceMethod yX5_costAnew]
def wsX6_rounds_r4 : List Cond := [Cond.selects RX5 yX5_costAnew yX5_costAnew, Cond.code yX5_costAnew cX5_costAnew 2 (some .int), Cond.methodLink RX5 56 yX2_begin, Cond.instanceMethod yX2_begin, Cond.selects RX2 yX2_begin yX2_begin, Cond.code yX2_begin cX2_begin 2 none, Cond.fieldLink RX2 63 "FilledForOne$Comer" "state" "I", Cond.methodLink RX2 66 yX3_begin, Cond.instanceMethod yX3_begin, Cond.selects RX3 yX3_begin yX3_begin, Cond.code yX3_begin cX3_begin 1 none, Cond.methodLink RX5 59 yX2_isOver, Cond.instanceMethod yX2_isOver, Cond.selects RX2 yX2_isOver yX2_isOver, Cond.code yX2_isOver cX2_isOver 1 (some .boolean), Cond.methodLink RX2 90 yX2_comersWith, Cond.instanceMethod yX2_comersWith, Cond.selects RX2 yX2_comersWith yX2_comersWith, Cond.code yX2_comersWith cX2_comersWith 4 (some .int), Cond.methodLink RX2 94 yX2_allFree, Cond.instanceMethod yX2_allFree, Cond.selects RX2 yX2_allFree yX2_allFree, Cond.code yX2_allFree cX2_allFree 2 (some .boolean), Cond.methodLink RX2 98 yX2_kettlesInUse]
def wsX6_rounds_r5 : List Cond := [Cond.instanceMethod yX2_kettlesInUse, Cond.selects RX2 yX2_kettlesInUse yX2_kettlesInUse, Cond.code yX2_kettlesInUse cX2_kettlesInUse 1 (some .int), Cond.methodLink RX2 101 yX3_isFree, Cond.instanceMethod yX3_isFree, Cond.selects RX3 yX3_isFree yX3_isFree, Cond.code yX3_isFree cX3_isFree 2 (some .boolean), Cond.methodLink RX5 63 yX2_passMinute, Cond.instanceMethod yX2_passMinute, Cond.selects RX2 yX2_passMinute yX2_passMinute, Cond.code yX2_passMinute cX2_passMinute 2 none, Cond.methodLink RX2 111 yX2_lineUp, Cond.instanceMethod yX2_lineUp, Cond.selects RX2 yX2_lineUp yX2_lineUp, Cond.code yX2_lineUp cX2_lineUp 2 none, Cond.fieldLink RX2 83 "FilledForOne$Comer" "minute" "I", Cond.methodLink RX2 114 yX2_loseImpatient, Cond.instanceMethod yX2_loseImpatient, Cond.selects RX2 yX2_loseImpatient yX2_loseImpatient, Cond.code yX2_loseImpatient cX2_loseImpatient 3 none, Cond.fieldLink RX2 87 "FilledForOne$Comer" "patience" "I", Cond.methodLink RX2 124 yX2_closeUp, Cond.instanceMethod yX2_closeUp, Cond.selects RX2 yX2_closeUp yX2_closeUp]
def wsX6_rounds_r6 : List Cond := [Cond.code yX2_closeUp cX2_closeUp 3 none, Cond.methodLink RX2 117 yX2_serve, Cond.instanceMethod yX2_serve, Cond.selects RX2 yX2_serve yX2_serve, Cond.code yX2_serve cX2_serve 4 (some .boolean), Cond.fieldLink RX2 84 "FilledForOne$Comer" "wants" "I", Cond.fieldLink RX2 134 "FilledForOne$Kettle" "level" "I", Cond.fieldLink RX2 137 "FilledForOne$Comer" "servedAt" "I", Cond.methodLink RX2 130 yX2_firstReady, Cond.instanceMethod yX2_firstReady, Cond.selects RX2 yX2_firstReady yX2_firstReady, Cond.code yX2_firstReady cX2_firstReady 3 (some (.object "FilledForOne$Kettle")), Cond.methodLink RX2 164 yX3_isReady, Cond.instanceMethod yX3_isReady, Cond.selects RX3 yX3_isReady yX3_isReady, Cond.code yX3_isReady cX3_isReady 3 (some .boolean), Cond.methodLink RX2 120 yX2_boil, Cond.instanceMethod yX2_boil, Cond.selects RX2 yX2_boil yX2_boil, Cond.code yX2_boil cX2_boil 5 none, Cond.fieldLink RX2 147 "FilledForOne$Comer" "kind" "I", Cond.fieldLink RX2 161 "FilledForOne$Day" "boils" "I", Cond.methodLink RX2 140 yX2_firstFree, Cond.instanceMethod yX2_firstFree]
def wsX6_rounds_r7 : List Cond := [Cond.selects RX2 yX2_firstFree yX2_firstFree, Cond.code yX2_firstFree cX2_firstFree 2 (some (.object "FilledForOne$Kettle")), Cond.methodLink RX2 144 yX2_waitsForOwn, Cond.instanceMethod yX2_waitsForOwn, Cond.selects RX2 yX2_waitsForOwn yX2_waitsForOwn, Cond.code yX2_waitsForOwn cX2_waitsForOwn 3 (some .boolean), Cond.fieldLink RX2 168 "FilledForOne$Kettle" "putOnBy" "I", Cond.methodLink RX2 150 yX2_upTo, Cond.instanceMethod yX2_upTo, Cond.selects RX2 yX2_upTo yX2_upTo, Cond.code yX2_upTo cX2_upTo 4 (some .int), Cond.fieldLink RX2 177 "FilledForOne$Comer" "figure" "I", Cond.methodLink RX2 183 Lib.Math.max.name, Cond.static Lib.Math.max.name, Cond.initialized "java/lang/Math", Cond.code Lib.Math.max.name Lib.Math.max.code 2 (some .int), Cond.methodLink RX2 189 Lib.Math.min.name, Cond.static Lib.Math.min.name, Cond.code Lib.Math.min.name Lib.Math.min.code 2 (some .int), Cond.methodLink RX2 174 yX2_wantsInLine, Cond.instanceMethod yX2_wantsInLine, Cond.selects RX2 yX2_wantsInLine yX2_wantsInLine, Cond.code yX2_wantsInLine cX2_wantsInLine 3 (some .int), Cond.methodLink RX2 180 yX2_wantsToCome]
def wsX6_rounds_r8 : List Cond := [Cond.instanceMethod yX2_wantsToCome, Cond.selects RX2 yX2_wantsToCome yX2_wantsToCome, Cond.code yX2_wantsToCome cX2_wantsToCome 4 (some .int), Cond.methodLink RX2 154 yX3_fill, Cond.instanceMethod yX3_fill, Cond.selects RX3 yX3_fill yX3_fill, Cond.code yX3_fill cX3_fill 2 none, Cond.methodLink RX2 157 yX3_putOn, Cond.instanceMethod yX3_putOn, Cond.selects RX3 yX3_putOn yX3_putOn, Cond.code yX3_putOn cX3_putOn 4 none, Cond.static yX6_heatingMinutes, Cond.code yX6_heatingMinutes cX6_heatingMinutes 4 (some .int), Cond.methodLink RX2 127 yX2_coolDown, Cond.instanceMethod yX2_coolDown, Cond.selects RX2 yX2_coolDown yX2_coolDown, Cond.code yX2_coolDown cX2_coolDown 2 none, Cond.methodLink RX2 171 yX3_cool, Cond.instanceMethod yX3_cool, Cond.selects RX3 yX3_cool yX3_cool, Cond.code yX3_cool cX3_cool 2 none, Cond.methodLink RX3 31 Lib.Math.max.name, Cond.methodLink RX5 41 yX2_cost, Cond.instanceMethod yX2_cost]
def wsX6_rounds_r9 : List Cond := [Cond.selects RX2 yX2_cost yX2_cost, Cond.code yX2_cost cX2_cost 1 (some .int), Cond.methodLink RX2 195 yX2_allWaited, Cond.instanceMethod yX2_allWaited, Cond.selects RX2 yX2_allWaited yX2_allWaited, Cond.code yX2_allWaited cX2_allWaited 3 (some .int), Cond.methodLink RX2 192 yX1_waited, Cond.instanceMethod yX1_waited, Cond.selects RX1 yX1_waited yX1_waited, Cond.code yX1_waited cX1_waited 1 (some .int), Cond.methodLink RX2 198 yX2_cupsLeft, Cond.instanceMethod yX2_cupsLeft, Cond.selects RX2 yX2_cupsLeft yX2_cupsLeft, Cond.code yX2_cupsLeft cX2_cupsLeft 3 (some .int), Cond.methodLink RX5 75 yX1_waited, Cond.methodLink RX6 152 yX5_kindDigits, Cond.instanceMethod yX5_kindDigits, Cond.selects RX5 yX5_kindDigits yX5_kindDigits, Cond.code yX5_kindDigits cX5_kindDigits 3 (some .int), Cond.methodLink RX6 155 yX5_costAnew, Cond.methodLink RX6 158 yX5_lostByKinds, Cond.instanceMethod yX5_lostByKinds, Cond.selects RX5 yX5_lostByKinds yX5_lostByKinds, Cond.code yX5_lostByKinds cX5_lostByKinds 5 (some .int)]
def wsX6_rounds_r10 : List Cond := [Cond.methodLink RX5 85 Lib.Math.min.name]
def wsX6_rounds : List Cond := .code yX6_rounds cX6_rounds 3 (some .int) :: ((wsX6_rounds_r1 ++ (wsX6_rounds_r2 ++ (wsX6_rounds_r3 ++ (wsX6_rounds_r4 ++ (wsX6_rounds_r5 ++ (wsX6_rounds_r6 ++ (wsX6_rounds_r7 ++ (wsX6_rounds_r8 ++ (wsX6_rounds_r9 ++ wsX6_rounds_r10))))))))) ++ wsX60 ++ wsX50 ++ wsX20 ++ wsX10 ++ wsX30)
def wsX6_marks_r1 : List Cond := [Cond.fieldLink RX6 22 "FilledForOne" "mind" "LFilledForOne$Mind;", Cond.fieldLink RX6 10 "FilledForOne" "now" "LFilledForOne$Day;", Cond.methodLink RX6 47 yX6_refuse, Cond.instanceMethod yX6_refuse, Cond.selects RX6 yX6_refuse yX6_refuse, Cond.initialized RX6, Cond.code yX6_refuse cX6_refuse 3 (some .int), Cond.fieldLink RX6 44 "FilledForOne" "refusals" "[I", Cond.methodLink RX6 58 yX5_take, Cond.instanceMethod yX5_take, Cond.selects RX5 yX5_take yX5_take, Cond.initialized RX5, Cond.code yX5_take cX5_take 2 none, Cond.fieldLink RX5 12 "FilledForOne$Mind" "day" "LFilledForOne$Day;", Cond.methodLink RX5 18 yX2_copy, Cond.instanceMethod yX2_copy, Cond.selects RX2 yX2_copy yX2_copy, Cond.initialized RX2, Cond.code yX2_copy cX2_copy 3 none, Cond.fieldLink RX2 18 "FilledForOne$Day" "settings" "[I", Cond.methodLink RX2 40 arraycopyName, Cond.native arraycopyName, Cond.static arraycopyName, Cond.initialized "java/lang/System"]
def wsX6_marks_r2 : List Cond := [Cond.fieldLink RX2 37 "FilledForOne$Day" "line" "[I", Cond.fieldLink RX2 46 "FilledForOne$Day" "known" "I", Cond.fieldLink RX2 50 "FilledForOne$Day" "lined" "I", Cond.fieldLink RX2 53 "FilledForOne$Day" "minute" "I", Cond.fieldLink RX2 25 "FilledForOne$Day" "comers" "[LFilledForOne$Comer;", Cond.fieldLink RX2 32 "FilledForOne$Day" "kettles" "[LFilledForOne$Kettle;", Cond.methodLink RX2 56 yX1_copy, Cond.instanceMethod yX1_copy, Cond.selects RX1 yX1_copy yX1_copy, Cond.initialized RX1, Cond.code yX1_copy cX1_copy 2 none, Cond.fieldLink RX1 9 "FilledForOne$Comer" "kind" "I", Cond.fieldLink RX1 15 "FilledForOne$Comer" "figure" "I", Cond.fieldLink RX1 22 "FilledForOne$Comer" "minute" "I", Cond.fieldLink RX1 25 "FilledForOne$Comer" "wants" "I", Cond.fieldLink RX1 28 "FilledForOne$Comer" "patience" "I", Cond.fieldLink RX1 31 "FilledForOne$Comer" "state" "I", Cond.fieldLink RX1 34 "FilledForOne$Comer" "servedAt" "I", Cond.methodLink RX1 18 yX1_become, Cond.instanceMethod yX1_become, Cond.selects RX1 yX1_become yX1_become, Cond.code yX1_become cX1_become 3 none, Cond.methodLink RX2 60 yX3_copy, Cond.instanceMethod yX3_copy]
def wsX6_marks_r3 : List Cond := [Cond.selects RX3 yX3_copy yX3_copy, Cond.initialized RX3, Cond.code yX3_copy cX3_copy 2 none, Cond.fieldLink RX3 9 "FilledForOne$Kettle" "level" "I", Cond.fieldLink RX3 15 "FilledForOne$Kettle" "warmth" "I", Cond.fieldLink RX3 18 "FilledForOne$Kettle" "age" "I", Cond.fieldLink RX3 21 "FilledForOne$Kettle" "busyTill" "I", Cond.fieldLink RX3 24 "FilledForOne$Kettle" "putOnBy" "I", Cond.methodLink RX6 161 yX5_bestMark, Cond.instanceMethod yX5_bestMark, Cond.selects RX5 yX5_bestMark yX5_bestMark, Cond.code yX5_bestMark cX5_bestMark 6 (some .int), Cond.constant RX5 71 (2147483647), Cond.fieldLink RX5 91 "FilledForOne$Day" "settings" "[I", Cond.methodLink RX5 72 yX5_costAnew, Cond.instanceMethod yX5_costAnew, Cond.selects RX5 yX5_costAnew yX5_costAnew, Cond.code yX5_costAnew cX5_costAnew 2 (some .int), Cond.methodLink RX5 56 yX2_begin, Cond.instanceMethod yX2_begin, Cond.selects RX2 yX2_begin yX2_begin, Cond.code yX2_begin cX2_begin 2 none, Cond.fieldLink RX2 63 "FilledForOne$Comer" "state" "I", Cond.methodLink RX2 66 yX3_begin]
def wsX6_marks_r4 : List Cond := [Cond.instanceMethod yX3_begin, Cond.selects RX3 yX3_begin yX3_begin, Cond.code yX3_begin cX3_begin 1 none, Cond.methodLink RX5 59 yX2_isOver, Cond.instanceMethod yX2_isOver, Cond.selects RX2 yX2_isOver yX2_isOver, Cond.code yX2_isOver cX2_isOver 1 (some .boolean), Cond.methodLink RX2 90 yX2_comersWith, Cond.instanceMethod yX2_comersWith, Cond.selects RX2 yX2_comersWith yX2_comersWith, Cond.code yX2_comersWith cX2_comersWith 4 (some .int), Cond.methodLink RX2 94 yX2_allFree, Cond.instanceMethod yX2_allFree, Cond.selects RX2 yX2_allFree yX2_allFree, Cond.code yX2_allFree cX2_allFree 2 (some .boolean), Cond.methodLink RX2 98 yX2_kettlesInUse, Cond.instanceMethod yX2_kettlesInUse, Cond.selects RX2 yX2_kettlesInUse yX2_kettlesInUse, Cond.code yX2_kettlesInUse cX2_kettlesInUse 1 (some .int), Cond.methodLink RX2 101 yX3_isFree, Cond.instanceMethod yX3_isFree, Cond.selects RX3 yX3_isFree yX3_isFree, Cond.code yX3_isFree cX3_isFree 2 (some .boolean), Cond.methodLink RX5 63 yX2_passMinute]
def wsX6_marks_r5 : List Cond := [Cond.instanceMethod yX2_passMinute, Cond.selects RX2 yX2_passMinute yX2_passMinute, Cond.code yX2_passMinute cX2_passMinute 2 none, Cond.methodLink RX2 111 yX2_lineUp, Cond.instanceMethod yX2_lineUp, Cond.selects RX2 yX2_lineUp yX2_lineUp, Cond.code yX2_lineUp cX2_lineUp 2 none, Cond.fieldLink RX2 83 "FilledForOne$Comer" "minute" "I", Cond.methodLink RX2 114 yX2_loseImpatient, Cond.instanceMethod yX2_loseImpatient, Cond.selects RX2 yX2_loseImpatient yX2_loseImpatient, Cond.code yX2_loseImpatient cX2_loseImpatient 3 none, Cond.fieldLink RX2 87 "FilledForOne$Comer" "patience" "I", Cond.methodLink RX2 124 yX2_closeUp, Cond.instanceMethod yX2_closeUp, Cond.selects RX2 yX2_closeUp yX2_closeUp, Cond.code yX2_closeUp cX2_closeUp 3 none, Cond.methodLink RX2 117 yX2_serve, Cond.instanceMethod yX2_serve, Cond.selects RX2 yX2_serve yX2_serve, Cond.code yX2_serve cX2_serve 4 (some .boolean), Cond.fieldLink RX2 84 "FilledForOne$Comer" "wants" "I", Cond.fieldLink RX2 134 "FilledForOne$Kettle" "level" "I", Cond.fieldLink RX2 137 "FilledForOne$Comer" "servedAt" "I"]
def wsX6_marks_r6 : List Cond := [Cond.methodLink RX2 130 yX2_firstReady, Cond.instanceMethod yX2_firstReady, Cond.selects RX2 yX2_firstReady yX2_firstReady, Cond.code yX2_firstReady cX2_firstReady 3 (some (.object "FilledForOne$Kettle")), Cond.methodLink RX2 164 yX3_isReady, Cond.instanceMethod yX3_isReady, Cond.selects RX3 yX3_isReady yX3_isReady, Cond.code yX3_isReady cX3_isReady 3 (some .boolean), Cond.methodLink RX2 120 yX2_boil, Cond.instanceMethod yX2_boil, Cond.selects RX2 yX2_boil yX2_boil, Cond.code yX2_boil cX2_boil 5 none, Cond.fieldLink RX2 147 "FilledForOne$Comer" "kind" "I", Cond.fieldLink RX2 161 "FilledForOne$Day" "boils" "I", Cond.methodLink RX2 140 yX2_firstFree, Cond.instanceMethod yX2_firstFree, Cond.selects RX2 yX2_firstFree yX2_firstFree, Cond.code yX2_firstFree cX2_firstFree 2 (some (.object "FilledForOne$Kettle")), Cond.methodLink RX2 144 yX2_waitsForOwn, Cond.instanceMethod yX2_waitsForOwn, Cond.selects RX2 yX2_waitsForOwn yX2_waitsForOwn, Cond.code yX2_waitsForOwn cX2_waitsForOwn 3 (some .boolean), Cond.fieldLink RX2 168 "FilledForOne$Kettle" "putOnBy" "I", Cond.methodLink RX2 150 yX2_upTo]
def wsX6_marks_r7 : List Cond := [Cond.instanceMethod yX2_upTo, Cond.selects RX2 yX2_upTo yX2_upTo, Cond.code yX2_upTo cX2_upTo 4 (some .int), Cond.fieldLink RX2 177 "FilledForOne$Comer" "figure" "I", Cond.methodLink RX2 183 Lib.Math.max.name, Cond.static Lib.Math.max.name, Cond.initialized "java/lang/Math", Cond.code Lib.Math.max.name Lib.Math.max.code 2 (some .int), Cond.methodLink RX2 189 Lib.Math.min.name, Cond.static Lib.Math.min.name, Cond.code Lib.Math.min.name Lib.Math.min.code 2 (some .int), Cond.methodLink RX2 174 yX2_wantsInLine, Cond.instanceMethod yX2_wantsInLine, Cond.selects RX2 yX2_wantsInLine yX2_wantsInLine, Cond.code yX2_wantsInLine cX2_wantsInLine 3 (some .int), Cond.methodLink RX2 180 yX2_wantsToCome, Cond.instanceMethod yX2_wantsToCome, Cond.selects RX2 yX2_wantsToCome yX2_wantsToCome, Cond.code yX2_wantsToCome cX2_wantsToCome 4 (some .int), Cond.methodLink RX2 154 yX3_fill, Cond.instanceMethod yX3_fill, Cond.selects RX3 yX3_fill yX3_fill, Cond.code yX3_fill cX3_fill 2 none, Cond.methodLink RX2 157 yX3_putOn]
def wsX6_marks_r8 : List Cond := [Cond.instanceMethod yX3_putOn, Cond.selects RX3 yX3_putOn yX3_putOn, Cond.code yX3_putOn cX3_putOn 4 none, Cond.static yX6_heatingMinutes, Cond.code yX6_heatingMinutes cX6_heatingMinutes 4 (some .int), Cond.methodLink RX2 127 yX2_coolDown, Cond.instanceMethod yX2_coolDown, Cond.selects RX2 yX2_coolDown yX2_coolDown, Cond.code yX2_coolDown cX2_coolDown 2 none, Cond.methodLink RX2 171 yX3_cool, Cond.instanceMethod yX3_cool, Cond.selects RX3 yX3_cool yX3_cool, Cond.code yX3_cool cX3_cool 2 none, Cond.methodLink RX3 31 Lib.Math.max.name, Cond.methodLink RX5 41 yX2_cost, Cond.instanceMethod yX2_cost, Cond.selects RX2 yX2_cost yX2_cost, Cond.code yX2_cost cX2_cost 1 (some .int), Cond.methodLink RX2 195 yX2_allWaited, Cond.instanceMethod yX2_allWaited, Cond.selects RX2 yX2_allWaited yX2_allWaited, Cond.code yX2_allWaited cX2_allWaited 3 (some .int), Cond.methodLink RX2 192 yX1_waited, Cond.instanceMethod yX1_waited]
def wsX6_marks_r9 : List Cond := [Cond.selects RX1 yX1_waited yX1_waited, Cond.code yX1_waited cX1_waited 1 (some .int), Cond.methodLink RX2 198 yX2_cupsLeft, Cond.instanceMethod yX2_cupsLeft, Cond.selects RX2 yX2_cupsLeft yX2_cupsLeft, Cond.code yX2_cupsLeft cX2_cupsLeft 3 (some .int)]
def wsX6_marks : List Cond := .code yX6_marks cX6_marks 2 (some .int) :: ((wsX6_marks_r1 ++ (wsX6_marks_r2 ++ (wsX6_marks_r3 ++ (wsX6_marks_r4 ++ (wsX6_marks_r5 ++ (wsX6_marks_r6 ++ (wsX6_marks_r7 ++ (wsX6_marks_r8 ++ wsX6_marks_r9)))))))) ++ wsX60 ++ wsX50 ++ wsX20 ++ wsX10 ++ wsX30)
def wsX6_second_r1 : List Cond := [Cond.fieldLink RX6 22 "FilledForOne" "mind" "LFilledForOne$Mind;", Cond.fieldLink RX6 10 "FilledForOne" "now" "LFilledForOne$Day;", Cond.methodLink RX6 58 yX5_take, Cond.instanceMethod yX5_take, Cond.selects RX5 yX5_take yX5_take, Cond.initialized RX5, Cond.code yX5_take cX5_take 2 none, Cond.fieldLink RX5 12 "FilledForOne$Mind" "day" "LFilledForOne$Day;", Cond.methodLink RX5 18 yX2_copy, Cond.instanceMethod yX2_copy, Cond.selects RX2 yX2_copy yX2_copy, Cond.initialized RX2, Cond.code yX2_copy cX2_copy 3 none, Cond.fieldLink RX2 18 "FilledForOne$Day" "settings" "[I", Cond.methodLink RX2 40 arraycopyName, Cond.native arraycopyName, Cond.static arraycopyName, Cond.initialized "java/lang/System", Cond.fieldLink RX2 37 "FilledForOne$Day" "line" "[I", Cond.fieldLink RX2 46 "FilledForOne$Day" "known" "I", Cond.fieldLink RX2 50 "FilledForOne$Day" "lined" "I", Cond.fieldLink RX2 53 "FilledForOne$Day" "minute" "I", Cond.fieldLink RX2 25 "FilledForOne$Day" "comers" "[LFilledForOne$Comer;", Cond.fieldLink RX2 32 "FilledForOne$Day" "kettles" "[LFilledForOne$Kettle;"]
def wsX6_second_r2 : List Cond := [Cond.methodLink RX2 56 yX1_copy, Cond.instanceMethod yX1_copy, Cond.selects RX1 yX1_copy yX1_copy, Cond.initialized RX1, Cond.code yX1_copy cX1_copy 2 none, Cond.fieldLink RX1 9 "FilledForOne$Comer" "kind" "I", Cond.fieldLink RX1 15 "FilledForOne$Comer" "figure" "I", Cond.fieldLink RX1 22 "FilledForOne$Comer" "minute" "I", Cond.fieldLink RX1 25 "FilledForOne$Comer" "wants" "I", Cond.fieldLink RX1 28 "FilledForOne$Comer" "patience" "I", Cond.fieldLink RX1 31 "FilledForOne$Comer" "state" "I", Cond.fieldLink RX1 34 "FilledForOne$Comer" "servedAt" "I", Cond.methodLink RX1 18 yX1_become, Cond.instanceMethod yX1_become, Cond.selects RX1 yX1_become yX1_become, Cond.code yX1_become cX1_become 3 none, Cond.methodLink RX2 60 yX3_copy, Cond.instanceMethod yX3_copy, Cond.selects RX3 yX3_copy yX3_copy, Cond.initialized RX3, Cond.code yX3_copy cX3_copy 2 none, Cond.fieldLink RX3 9 "FilledForOne$Kettle" "level" "I", Cond.fieldLink RX3 15 "FilledForOne$Kettle" "warmth" "I", Cond.fieldLink RX3 18 "FilledForOne$Kettle" "age" "I"]
def wsX6_second_r3 : List Cond := [Cond.fieldLink RX3 21 "FilledForOne$Kettle" "busyTill" "I", Cond.fieldLink RX3 24 "FilledForOne$Kettle" "putOnBy" "I", Cond.methodLink RX6 165 yX5_savedBySecond, Cond.instanceMethod yX5_savedBySecond, Cond.selects RX5 yX5_savedBySecond yX5_savedBySecond, Cond.code yX5_savedBySecond cX5_savedBySecond 2 (some .int), Cond.fieldLink RX5 91 "FilledForOne$Day" "settings" "[I", Cond.methodLink RX5 72 yX5_costAnew, Cond.instanceMethod yX5_costAnew, Cond.selects RX5 yX5_costAnew yX5_costAnew, Cond.code yX5_costAnew cX5_costAnew 2 (some .int), Cond.methodLink RX5 56 yX2_begin, Cond.instanceMethod yX2_begin, Cond.selects RX2 yX2_begin yX2_begin, Cond.code yX2_begin cX2_begin 2 none, Cond.fieldLink RX2 63 "FilledForOne$Comer" "state" "I", Cond.methodLink RX2 66 yX3_begin, Cond.instanceMethod yX3_begin, Cond.selects RX3 yX3_begin yX3_begin, Cond.code yX3_begin cX3_begin 1 none, Cond.methodLink RX5 59 yX2_isOver, Cond.instanceMethod yX2_isOver, Cond.selects RX2 yX2_isOver yX2_isOver, Cond.code yX2_isOver cX2_isOver 1 (some .boolean)]
def wsX6_second_r4 : List Cond := [Cond.methodLink RX2 90 yX2_comersWith, Cond.instanceMethod yX2_comersWith, Cond.selects RX2 yX2_comersWith yX2_comersWith, Cond.code yX2_comersWith cX2_comersWith 4 (some .int), Cond.methodLink RX2 94 yX2_allFree, Cond.instanceMethod yX2_allFree, Cond.selects RX2 yX2_allFree yX2_allFree, Cond.code yX2_allFree cX2_allFree 2 (some .boolean), Cond.methodLink RX2 98 yX2_kettlesInUse, Cond.instanceMethod yX2_kettlesInUse, Cond.selects RX2 yX2_kettlesInUse yX2_kettlesInUse, Cond.code yX2_kettlesInUse cX2_kettlesInUse 1 (some .int), Cond.methodLink RX2 101 yX3_isFree, Cond.instanceMethod yX3_isFree, Cond.selects RX3 yX3_isFree yX3_isFree, Cond.code yX3_isFree cX3_isFree 2 (some .boolean), Cond.methodLink RX5 63 yX2_passMinute, Cond.instanceMethod yX2_passMinute, Cond.selects RX2 yX2_passMinute yX2_passMinute, Cond.code yX2_passMinute cX2_passMinute 2 none, Cond.methodLink RX2 111 yX2_lineUp, Cond.instanceMethod yX2_lineUp, Cond.selects RX2 yX2_lineUp yX2_lineUp, Cond.code yX2_lineUp cX2_lineUp 2 none]
def wsX6_second_r5 : List Cond := [Cond.fieldLink RX2 83 "FilledForOne$Comer" "minute" "I", Cond.methodLink RX2 114 yX2_loseImpatient, Cond.instanceMethod yX2_loseImpatient, Cond.selects RX2 yX2_loseImpatient yX2_loseImpatient, Cond.code yX2_loseImpatient cX2_loseImpatient 3 none, Cond.fieldLink RX2 87 "FilledForOne$Comer" "patience" "I", Cond.methodLink RX2 124 yX2_closeUp, Cond.instanceMethod yX2_closeUp, Cond.selects RX2 yX2_closeUp yX2_closeUp, Cond.code yX2_closeUp cX2_closeUp 3 none, Cond.methodLink RX2 117 yX2_serve, Cond.instanceMethod yX2_serve, Cond.selects RX2 yX2_serve yX2_serve, Cond.code yX2_serve cX2_serve 4 (some .boolean), Cond.fieldLink RX2 84 "FilledForOne$Comer" "wants" "I", Cond.fieldLink RX2 134 "FilledForOne$Kettle" "level" "I", Cond.fieldLink RX2 137 "FilledForOne$Comer" "servedAt" "I", Cond.methodLink RX2 130 yX2_firstReady, Cond.instanceMethod yX2_firstReady, Cond.selects RX2 yX2_firstReady yX2_firstReady, Cond.code yX2_firstReady cX2_firstReady 3 (some (.object "FilledForOne$Kettle")), Cond.methodLink RX2 164 yX3_isReady, Cond.instanceMethod yX3_isReady, Cond.selects RX3 yX3_isReady yX3_isReady]
def wsX6_second_r6 : List Cond := [Cond.code yX3_isReady cX3_isReady 3 (some .boolean), Cond.methodLink RX2 120 yX2_boil, Cond.instanceMethod yX2_boil, Cond.selects RX2 yX2_boil yX2_boil, Cond.code yX2_boil cX2_boil 5 none, Cond.fieldLink RX2 147 "FilledForOne$Comer" "kind" "I", Cond.fieldLink RX2 161 "FilledForOne$Day" "boils" "I", Cond.methodLink RX2 140 yX2_firstFree, Cond.instanceMethod yX2_firstFree, Cond.selects RX2 yX2_firstFree yX2_firstFree, Cond.code yX2_firstFree cX2_firstFree 2 (some (.object "FilledForOne$Kettle")), Cond.methodLink RX2 144 yX2_waitsForOwn, Cond.instanceMethod yX2_waitsForOwn, Cond.selects RX2 yX2_waitsForOwn yX2_waitsForOwn, Cond.code yX2_waitsForOwn cX2_waitsForOwn 3 (some .boolean), Cond.fieldLink RX2 168 "FilledForOne$Kettle" "putOnBy" "I", Cond.methodLink RX2 150 yX2_upTo, Cond.instanceMethod yX2_upTo, Cond.selects RX2 yX2_upTo yX2_upTo, Cond.code yX2_upTo cX2_upTo 4 (some .int), Cond.fieldLink RX2 177 "FilledForOne$Comer" "figure" "I", Cond.methodLink RX2 183 Lib.Math.max.name, Cond.static Lib.Math.max.name, Cond.initialized "java/lang/Math"]
def wsX6_second_r7 : List Cond := [Cond.code Lib.Math.max.name Lib.Math.max.code 2 (some .int), Cond.methodLink RX2 189 Lib.Math.min.name, Cond.static Lib.Math.min.name, Cond.code Lib.Math.min.name Lib.Math.min.code 2 (some .int), Cond.methodLink RX2 174 yX2_wantsInLine, Cond.instanceMethod yX2_wantsInLine, Cond.selects RX2 yX2_wantsInLine yX2_wantsInLine, Cond.code yX2_wantsInLine cX2_wantsInLine 3 (some .int), Cond.methodLink RX2 180 yX2_wantsToCome, Cond.instanceMethod yX2_wantsToCome, Cond.selects RX2 yX2_wantsToCome yX2_wantsToCome, Cond.code yX2_wantsToCome cX2_wantsToCome 4 (some .int), Cond.methodLink RX2 154 yX3_fill, Cond.instanceMethod yX3_fill, Cond.selects RX3 yX3_fill yX3_fill, Cond.code yX3_fill cX3_fill 2 none, Cond.methodLink RX2 157 yX3_putOn, Cond.instanceMethod yX3_putOn, Cond.selects RX3 yX3_putOn yX3_putOn, Cond.code yX3_putOn cX3_putOn 4 none, Cond.static yX6_heatingMinutes, Cond.initialized RX6, Cond.code yX6_heatingMinutes cX6_heatingMinutes 4 (some .int), Cond.methodLink RX2 127 yX2_coolDown]
def wsX6_second_r8 : List Cond := [Cond.instanceMethod yX2_coolDown, Cond.selects RX2 yX2_coolDown yX2_coolDown, Cond.code yX2_coolDown cX2_coolDown 2 none, Cond.methodLink RX2 171 yX3_cool, Cond.instanceMethod yX3_cool, Cond.selects RX3 yX3_cool yX3_cool, Cond.code yX3_cool cX3_cool 2 none, Cond.methodLink RX3 31 Lib.Math.max.name, Cond.methodLink RX5 41 yX2_cost, Cond.instanceMethod yX2_cost, Cond.selects RX2 yX2_cost yX2_cost, Cond.code yX2_cost cX2_cost 1 (some .int), Cond.methodLink RX2 195 yX2_allWaited, Cond.instanceMethod yX2_allWaited, Cond.selects RX2 yX2_allWaited yX2_allWaited, Cond.code yX2_allWaited cX2_allWaited 3 (some .int), Cond.methodLink RX2 192 yX1_waited, Cond.instanceMethod yX1_waited, Cond.selects RX1 yX1_waited yX1_waited, Cond.code yX1_waited cX1_waited 1 (some .int), Cond.methodLink RX2 198 yX2_cupsLeft, Cond.instanceMethod yX2_cupsLeft, Cond.selects RX2 yX2_cupsLeft yX2_cupsLeft, Cond.code yX2_cupsLeft cX2_cupsLeft 3 (some .int)]
def wsX6_second : List Cond := .code yX6_second cX6_second 1 (some .int) :: ((wsX6_second_r1 ++ (wsX6_second_r2 ++ (wsX6_second_r3 ++ (wsX6_second_r4 ++ (wsX6_second_r5 ++ (wsX6_second_r6 ++ (wsX6_second_r7 ++ wsX6_second_r8))))))) ++ wsX60 ++ wsX50 ++ wsX20 ++ wsX10 ++ wsX30)
def wsX6_urn_r1 : List Cond := [Cond.fieldLink RX6 22 "FilledForOne" "mind" "LFilledForOne$Mind;", Cond.fieldLink RX6 10 "FilledForOne" "now" "LFilledForOne$Day;", Cond.fieldLink RX6 29 "FilledForOne" "arrivals" "LFilledForOne$Arrivals;", Cond.methodLink RX6 47 yX6_refuse, Cond.instanceMethod yX6_refuse, Cond.selects RX6 yX6_refuse yX6_refuse, Cond.initialized RX6, Cond.code yX6_refuse cX6_refuse 3 (some .int), Cond.fieldLink RX6 44 "FilledForOne" "refusals" "[I", Cond.methodLink RX6 58 yX5_take, Cond.instanceMethod yX5_take, Cond.selects RX5 yX5_take yX5_take, Cond.initialized RX5, Cond.code yX5_take cX5_take 2 none, Cond.fieldLink RX5 12 "FilledForOne$Mind" "day" "LFilledForOne$Day;", Cond.methodLink RX5 18 yX2_copy, Cond.instanceMethod yX2_copy, Cond.selects RX2 yX2_copy yX2_copy, Cond.initialized RX2, Cond.code yX2_copy cX2_copy 3 none, Cond.fieldLink RX2 18 "FilledForOne$Day" "settings" "[I", Cond.methodLink RX2 40 arraycopyName, Cond.native arraycopyName, Cond.static arraycopyName]
def wsX6_urn_r2 : List Cond := [Cond.initialized "java/lang/System", Cond.fieldLink RX2 37 "FilledForOne$Day" "line" "[I", Cond.fieldLink RX2 46 "FilledForOne$Day" "known" "I", Cond.fieldLink RX2 50 "FilledForOne$Day" "lined" "I", Cond.fieldLink RX2 53 "FilledForOne$Day" "minute" "I", Cond.fieldLink RX2 25 "FilledForOne$Day" "comers" "[LFilledForOne$Comer;", Cond.fieldLink RX2 32 "FilledForOne$Day" "kettles" "[LFilledForOne$Kettle;", Cond.methodLink RX2 56 yX1_copy, Cond.instanceMethod yX1_copy, Cond.selects RX1 yX1_copy yX1_copy, Cond.initialized RX1, Cond.code yX1_copy cX1_copy 2 none, Cond.fieldLink RX1 9 "FilledForOne$Comer" "kind" "I", Cond.fieldLink RX1 15 "FilledForOne$Comer" "figure" "I", Cond.fieldLink RX1 22 "FilledForOne$Comer" "minute" "I", Cond.fieldLink RX1 25 "FilledForOne$Comer" "wants" "I", Cond.fieldLink RX1 28 "FilledForOne$Comer" "patience" "I", Cond.fieldLink RX1 31 "FilledForOne$Comer" "state" "I", Cond.fieldLink RX1 34 "FilledForOne$Comer" "servedAt" "I", Cond.methodLink RX1 18 yX1_become, Cond.instanceMethod yX1_become, Cond.selects RX1 yX1_become yX1_become, Cond.code yX1_become cX1_become 3 none, Cond.methodLink RX2 60 yX3_copy]
def wsX6_urn_r3 : List Cond := [Cond.instanceMethod yX3_copy, Cond.selects RX3 yX3_copy yX3_copy, Cond.initialized RX3, Cond.code yX3_copy cX3_copy 2 none, Cond.fieldLink RX3 9 "FilledForOne$Kettle" "level" "I", Cond.fieldLink RX3 15 "FilledForOne$Kettle" "warmth" "I", Cond.fieldLink RX3 18 "FilledForOne$Kettle" "age" "I", Cond.fieldLink RX3 21 "FilledForOne$Kettle" "busyTill" "I", Cond.fieldLink RX3 24 "FilledForOne$Kettle" "putOnBy" "I", Cond.methodLink RX6 168 yX0_take, Cond.instanceMethod yX0_take, Cond.selects RX0 yX0_take yX0_take, Cond.initialized RX0, Cond.code yX0_take cX0_take 3 none, Cond.fieldLink RX0 18 "FilledForOne$Arrivals" "count" "I", Cond.fieldLink RX0 22 "FilledForOne$Day" "known" "I", Cond.fieldLink RX0 9 "FilledForOne$Arrivals" "minutes" "[I", Cond.fieldLink RX0 27 "FilledForOne$Day" "comers" "[LFilledForOne$Comer;", Cond.fieldLink RX0 31 "FilledForOne$Comer" "minute" "I", Cond.fieldLink RX0 36 "FilledForOne$Comer" "wants" "I", Cond.methodLink RX0 38 yX0_insert, Cond.instanceMethod yX0_insert, Cond.selects RX0 yX0_insert yX0_insert, Cond.code yX0_insert cX0_insert 4 none]
def wsX6_urn_r4 : List Cond := [Cond.fieldLink RX0 15 "FilledForOne$Arrivals" "wants" "[I", Cond.methodLink RX6 169 yX0_hours, Cond.instanceMethod yX0_hours, Cond.selects RX0 yX0_hours yX0_hours, Cond.code yX0_hours cX0_hours 1 (some .int), Cond.methodLink RX0 42 Lib.Math.max.name, Cond.static Lib.Math.max.name, Cond.initialized "java/lang/Math", Cond.code Lib.Math.max.name Lib.Math.max.code 2 (some .int), Cond.methodLink RX6 155 yX5_costAnew, Cond.instanceMethod yX5_costAnew, Cond.selects RX5 yX5_costAnew yX5_costAnew, Cond.code yX5_costAnew cX5_costAnew 2 (some .int), Cond.methodLink RX5 56 yX2_begin, Cond.instanceMethod yX2_begin, Cond.selects RX2 yX2_begin yX2_begin, Cond.code yX2_begin cX2_begin 2 none, Cond.fieldLink RX2 63 "FilledForOne$Comer" "state" "I", Cond.methodLink RX2 66 yX3_begin, Cond.instanceMethod yX3_begin, Cond.selects RX3 yX3_begin yX3_begin, Cond.code yX3_begin cX3_begin 1 none, Cond.methodLink RX5 59 yX2_isOver, Cond.instanceMethod yX2_isOver]
def wsX6_urn_r5 : List Cond := [Cond.selects RX2 yX2_isOver yX2_isOver, Cond.code yX2_isOver cX2_isOver 1 (some .boolean), Cond.methodLink RX2 90 yX2_comersWith, Cond.instanceMethod yX2_comersWith, Cond.selects RX2 yX2_comersWith yX2_comersWith, Cond.code yX2_comersWith cX2_comersWith 4 (some .int), Cond.methodLink RX2 94 yX2_allFree, Cond.instanceMethod yX2_allFree, Cond.selects RX2 yX2_allFree yX2_allFree, Cond.code yX2_allFree cX2_allFree 2 (some .boolean), Cond.methodLink RX2 98 yX2_kettlesInUse, Cond.instanceMethod yX2_kettlesInUse, Cond.selects RX2 yX2_kettlesInUse yX2_kettlesInUse, Cond.code yX2_kettlesInUse cX2_kettlesInUse 1 (some .int), Cond.methodLink RX2 101 yX3_isFree, Cond.instanceMethod yX3_isFree, Cond.selects RX3 yX3_isFree yX3_isFree, Cond.code yX3_isFree cX3_isFree 2 (some .boolean), Cond.methodLink RX5 63 yX2_passMinute, Cond.instanceMethod yX2_passMinute, Cond.selects RX2 yX2_passMinute yX2_passMinute, Cond.code yX2_passMinute cX2_passMinute 2 none, Cond.methodLink RX2 111 yX2_lineUp, Cond.instanceMethod yX2_lineUp]
def wsX6_urn_r6 : List Cond := [Cond.selects RX2 yX2_lineUp yX2_lineUp, Cond.code yX2_lineUp cX2_lineUp 2 none, Cond.fieldLink RX2 83 "FilledForOne$Comer" "minute" "I", Cond.methodLink RX2 114 yX2_loseImpatient, Cond.instanceMethod yX2_loseImpatient, Cond.selects RX2 yX2_loseImpatient yX2_loseImpatient, Cond.code yX2_loseImpatient cX2_loseImpatient 3 none, Cond.fieldLink RX2 87 "FilledForOne$Comer" "patience" "I", Cond.methodLink RX2 124 yX2_closeUp, Cond.instanceMethod yX2_closeUp, Cond.selects RX2 yX2_closeUp yX2_closeUp, Cond.code yX2_closeUp cX2_closeUp 3 none, Cond.methodLink RX2 117 yX2_serve, Cond.instanceMethod yX2_serve, Cond.selects RX2 yX2_serve yX2_serve, Cond.code yX2_serve cX2_serve 4 (some .boolean), Cond.fieldLink RX2 84 "FilledForOne$Comer" "wants" "I", Cond.fieldLink RX2 134 "FilledForOne$Kettle" "level" "I", Cond.fieldLink RX2 137 "FilledForOne$Comer" "servedAt" "I", Cond.methodLink RX2 130 yX2_firstReady, Cond.instanceMethod yX2_firstReady, Cond.selects RX2 yX2_firstReady yX2_firstReady, Cond.code yX2_firstReady cX2_firstReady 3 (some (.object "FilledForOne$Kettle")), Cond.methodLink RX2 164 yX3_isReady]
def wsX6_urn_r7 : List Cond := [Cond.instanceMethod yX3_isReady, Cond.selects RX3 yX3_isReady yX3_isReady, Cond.code yX3_isReady cX3_isReady 3 (some .boolean), Cond.methodLink RX2 120 yX2_boil, Cond.instanceMethod yX2_boil, Cond.selects RX2 yX2_boil yX2_boil, Cond.code yX2_boil cX2_boil 5 none, Cond.fieldLink RX2 147 "FilledForOne$Comer" "kind" "I", Cond.fieldLink RX2 161 "FilledForOne$Day" "boils" "I", Cond.methodLink RX2 140 yX2_firstFree, Cond.instanceMethod yX2_firstFree, Cond.selects RX2 yX2_firstFree yX2_firstFree, Cond.code yX2_firstFree cX2_firstFree 2 (some (.object "FilledForOne$Kettle")), Cond.methodLink RX2 144 yX2_waitsForOwn, Cond.instanceMethod yX2_waitsForOwn, Cond.selects RX2 yX2_waitsForOwn yX2_waitsForOwn, Cond.code yX2_waitsForOwn cX2_waitsForOwn 3 (some .boolean), Cond.fieldLink RX2 168 "FilledForOne$Kettle" "putOnBy" "I", Cond.methodLink RX2 150 yX2_upTo, Cond.instanceMethod yX2_upTo, Cond.selects RX2 yX2_upTo yX2_upTo, Cond.code yX2_upTo cX2_upTo 4 (some .int), Cond.fieldLink RX2 177 "FilledForOne$Comer" "figure" "I", Cond.methodLink RX2 183 Lib.Math.max.name]
def wsX6_urn_r8 : List Cond := [Cond.methodLink RX2 189 Lib.Math.min.name, Cond.static Lib.Math.min.name, Cond.code Lib.Math.min.name Lib.Math.min.code 2 (some .int), Cond.methodLink RX2 174 yX2_wantsInLine, Cond.instanceMethod yX2_wantsInLine, Cond.selects RX2 yX2_wantsInLine yX2_wantsInLine, Cond.code yX2_wantsInLine cX2_wantsInLine 3 (some .int), Cond.methodLink RX2 180 yX2_wantsToCome, Cond.instanceMethod yX2_wantsToCome, Cond.selects RX2 yX2_wantsToCome yX2_wantsToCome, Cond.code yX2_wantsToCome cX2_wantsToCome 4 (some .int), Cond.methodLink RX2 154 yX3_fill, Cond.instanceMethod yX3_fill, Cond.selects RX3 yX3_fill yX3_fill, Cond.code yX3_fill cX3_fill 2 none, Cond.methodLink RX2 157 yX3_putOn, Cond.instanceMethod yX3_putOn, Cond.selects RX3 yX3_putOn yX3_putOn, Cond.code yX3_putOn cX3_putOn 4 none, Cond.static yX6_heatingMinutes, Cond.code yX6_heatingMinutes cX6_heatingMinutes 4 (some .int), Cond.methodLink RX2 127 yX2_coolDown, Cond.instanceMethod yX2_coolDown, Cond.selects RX2 yX2_coolDown yX2_coolDown]
def wsX6_urn_r9 : List Cond := [Cond.code yX2_coolDown cX2_coolDown 2 none, Cond.methodLink RX2 171 yX3_cool, Cond.instanceMethod yX3_cool, Cond.selects RX3 yX3_cool yX3_cool, Cond.code yX3_cool cX3_cool 2 none, Cond.methodLink RX3 31 Lib.Math.max.name, Cond.methodLink RX5 41 yX2_cost, Cond.instanceMethod yX2_cost, Cond.selects RX2 yX2_cost yX2_cost, Cond.code yX2_cost cX2_cost 1 (some .int), Cond.methodLink RX2 195 yX2_allWaited, Cond.instanceMethod yX2_allWaited, Cond.selects RX2 yX2_allWaited yX2_allWaited, Cond.code yX2_allWaited cX2_allWaited 3 (some .int), Cond.methodLink RX2 192 yX1_waited, Cond.instanceMethod yX1_waited, Cond.selects RX1 yX1_waited yX1_waited, Cond.code yX1_waited cX1_waited 1 (some .int), Cond.methodLink RX2 198 yX2_cupsLeft, Cond.instanceMethod yX2_cupsLeft, Cond.selects RX2 yX2_cupsLeft yX2_cupsLeft, Cond.code yX2_cupsLeft cX2_cupsLeft 3 (some .int)]
def wsX6_urn : List Cond := .code yX6_urn cX6_urn 2 (some .int) :: ((wsX6_urn_r1 ++ (wsX6_urn_r2 ++ (wsX6_urn_r3 ++ (wsX6_urn_r4 ++ (wsX6_urn_r5 ++ (wsX6_urn_r6 ++ (wsX6_urn_r7 ++ (wsX6_urn_r8 ++ wsX6_urn_r9)))))))) ++ wsX60 ++ wsX50 ++ wsX20 ++ wsX10 ++ wsX30 ++ wsX00)
def wsX6_least_r1 : List Cond := [Cond.fieldLink RX6 10 "FilledForOne" "now" "LFilledForOne$Day;", Cond.fieldLink RX6 29 "FilledForOne" "arrivals" "LFilledForOne$Arrivals;", Cond.methodLink RX6 47 yX6_refuse, Cond.instanceMethod yX6_refuse, Cond.selects RX6 yX6_refuse yX6_refuse, Cond.initialized RX6, Cond.code yX6_refuse cX6_refuse 3 (some .int), Cond.fieldLink RX6 44 "FilledForOne" "refusals" "[I", Cond.methodLink RX6 172 yX2_someoneWantsTooMuch, Cond.instanceMethod yX2_someoneWantsTooMuch, Cond.selects RX2 yX2_someoneWantsTooMuch yX2_someoneWantsTooMuch, Cond.initialized RX2, Cond.code yX2_someoneWantsTooMuch cX2_someoneWantsTooMuch 2 (some .boolean), Cond.fieldLink RX2 46 "FilledForOne$Day" "known" "I", Cond.fieldLink RX2 25 "FilledForOne$Day" "comers" "[LFilledForOne$Comer;", Cond.fieldLink RX2 84 "FilledForOne$Comer" "wants" "I", Cond.fieldLink RX2 18 "FilledForOne$Day" "settings" "[I", Cond.methodLink RX6 168 yX0_take, Cond.instanceMethod yX0_take, Cond.selects RX0 yX0_take yX0_take, Cond.initialized RX0, Cond.code yX0_take cX0_take 3 none, Cond.fieldLink RX0 18 "FilledForOne$Arrivals" "count" "I", Cond.fieldLink RX0 22 "FilledForOne$Day" "known" "I"]
def wsX6_least_r2 : List Cond := [Cond.fieldLink RX0 9 "FilledForOne$Arrivals" "minutes" "[I", Cond.fieldLink RX0 27 "FilledForOne$Day" "comers" "[LFilledForOne$Comer;", Cond.fieldLink RX0 31 "FilledForOne$Comer" "minute" "I", Cond.fieldLink RX0 36 "FilledForOne$Comer" "wants" "I", Cond.methodLink RX0 38 yX0_insert, Cond.instanceMethod yX0_insert, Cond.selects RX0 yX0_insert yX0_insert, Cond.code yX0_insert cX0_insert 4 none, Cond.fieldLink RX0 15 "FilledForOne$Arrivals" "wants" "[I", Cond.methodLink RX6 175 yX0_leastBoils, Cond.instanceMethod yX0_leastBoils, Cond.selects RX0 yX0_leastBoils yX0_leastBoils, Cond.code yX0_leastBoils cX0_leastBoils 7 (some .int), Cond.constant RX0 50 (2147483647), Cond.fieldLink RX0 51 "FilledForOne$Day" "settings" "[I", Cond.methodLink RX0 54 yX0_boilsCost, Cond.instanceMethod yX0_boilsCost, Cond.selects RX0 yX0_boilsCost yX0_boilsCost, Cond.code yX0_boilsCost cX0_boilsCost 8 (some .int), Cond.methodLink RX0 42 Lib.Math.max.name, Cond.static Lib.Math.max.name, Cond.initialized "java/lang/Math", Cond.code Lib.Math.max.name Lib.Math.max.code 2 (some .int), Cond.static yX6_heatingMinutes]
def wsX6_least_r3 : List Cond := [Cond.code yX6_heatingMinutes cX6_heatingMinutes 4 (some .int), Cond.methodLink RX0 62 yX0_waitedTill, Cond.instanceMethod yX0_waitedTill, Cond.selects RX0 yX0_waitedTill yX0_waitedTill, Cond.code yX0_waitedTill cX0_waitedTill 6 (some .int)]
def wsX6_least : List Cond := .code yX6_least cX6_least 2 (some .int) :: ((wsX6_least_r1 ++ (wsX6_least_r2 ++ wsX6_least_r3)) ++ wsX60 ++ wsX20 ++ wsX10 ++ wsX00)
def wsX6_ferry_r1 : List Cond := [Cond.fieldLink RX6 29 "FilledForOne" "arrivals" "LFilledForOne$Arrivals;", Cond.fieldLink RX6 10 "FilledForOne" "now" "LFilledForOne$Day;", Cond.methodLink RX6 47 yX6_refuse, Cond.instanceMethod yX6_refuse, Cond.selects RX6 yX6_refuse yX6_refuse, Cond.initialized RX6, Cond.code yX6_refuse cX6_refuse 3 (some .int), Cond.fieldLink RX6 44 "FilledForOne" "refusals" "[I", Cond.methodLink RX6 168 yX0_take, Cond.instanceMethod yX0_take, Cond.selects RX0 yX0_take yX0_take, Cond.initialized RX0, Cond.code yX0_take cX0_take 3 none, Cond.fieldLink RX0 18 "FilledForOne$Arrivals" "count" "I", Cond.fieldLink RX0 22 "FilledForOne$Day" "known" "I", Cond.fieldLink RX0 9 "FilledForOne$Arrivals" "minutes" "[I", Cond.fieldLink RX0 27 "FilledForOne$Day" "comers" "[LFilledForOne$Comer;", Cond.fieldLink RX0 31 "FilledForOne$Comer" "minute" "I", Cond.fieldLink RX0 36 "FilledForOne$Comer" "wants" "I", Cond.methodLink RX0 38 yX0_insert, Cond.instanceMethod yX0_insert, Cond.selects RX0 yX0_insert yX0_insert, Cond.code yX0_insert cX0_insert 4 none, Cond.fieldLink RX0 15 "FilledForOne$Arrivals" "wants" "[I"]
def wsX6_ferry_r2 : List Cond := [Cond.methodLink RX6 179 yX0_waitedForSeats, Cond.instanceMethod yX0_waitedForSeats, Cond.selects RX0 yX0_waitedForSeats yX0_waitedForSeats, Cond.code yX0_waitedForSeats cX0_waitedForSeats 6 (some .int), Cond.methodLink RX0 62 yX0_waitedTill, Cond.instanceMethod yX0_waitedTill, Cond.selects RX0 yX0_waitedTill yX0_waitedTill, Cond.code yX0_waitedTill cX0_waitedTill 6 (some .int)]
def wsX6_ferry : List Cond := .code yX6_ferry cX6_ferry 3 (some .int) :: ((wsX6_ferry_r1 ++ wsX6_ferry_r2) ++ wsX60 ++ wsX00 ++ wsX20 ++ wsX10)
def wsX6_times_r1 : List Cond := [Cond.fieldLink RX6 29 "FilledForOne" "arrivals" "LFilledForOne$Arrivals;", Cond.fieldLink RX6 10 "FilledForOne" "now" "LFilledForOne$Day;", Cond.methodLink RX6 47 yX6_refuse, Cond.instanceMethod yX6_refuse, Cond.selects RX6 yX6_refuse yX6_refuse, Cond.initialized RX6, Cond.code yX6_refuse cX6_refuse 3 (some .int), Cond.fieldLink RX6 44 "FilledForOne" "refusals" "[I", Cond.methodLink RX6 168 yX0_take, Cond.instanceMethod yX0_take, Cond.selects RX0 yX0_take yX0_take, Cond.initialized RX0, Cond.code yX0_take cX0_take 3 none, Cond.fieldLink RX0 18 "FilledForOne$Arrivals" "count" "I", Cond.fieldLink RX0 22 "FilledForOne$Day" "known" "I", Cond.fieldLink RX0 9 "FilledForOne$Arrivals" "minutes" "[I", Cond.fieldLink RX0 27 "FilledForOne$Day" "comers" "[LFilledForOne$Comer;", Cond.fieldLink RX0 31 "FilledForOne$Comer" "minute" "I", Cond.fieldLink RX0 36 "FilledForOne$Comer" "wants" "I", Cond.methodLink RX0 38 yX0_insert, Cond.instanceMethod yX0_insert, Cond.selects RX0 yX0_insert yX0_insert, Cond.code yX0_insert cX0_insert 4 none, Cond.fieldLink RX0 15 "FilledForOne$Arrivals" "wants" "[I"]
def wsX6_times_r2 : List Cond := [Cond.methodLink RX6 182 yX0_waitedForTimes, Cond.instanceMethod yX0_waitedForTimes, Cond.selects RX0 yX0_waitedForTimes yX0_waitedForTimes, Cond.code yX0_waitedForTimes cX0_waitedForTimes 4 (some .int), Cond.methodLink RX0 65 yJ9_floorMod_7cf53, Cond.static yJ9_floorMod_7cf53, Cond.initialized RJ9, Cond.code yJ9_floorMod_7cf53 cJ9_floorMod_7cf53 3 (some .int)]
def wsX6_times : List Cond := .code yX6_times cX6_times 2 (some .int) :: ((wsX6_times_r1 ++ wsX6_times_r2) ++ wsX60 ++ wsX00 ++ wsX20 ++ wsX10)
def wsX6_better_r1 : List Cond := [Cond.fieldLink RX6 29 "FilledForOne" "arrivals" "LFilledForOne$Arrivals;", Cond.fieldLink RX6 10 "FilledForOne" "now" "LFilledForOne$Day;", Cond.methodLink RX6 47 yX6_refuse, Cond.instanceMethod yX6_refuse, Cond.selects RX6 yX6_refuse yX6_refuse, Cond.initialized RX6, Cond.code yX6_refuse cX6_refuse 3 (some .int), Cond.fieldLink RX6 44 "FilledForOne" "refusals" "[I", Cond.methodLink RX6 168 yX0_take, Cond.instanceMethod yX0_take, Cond.selects RX0 yX0_take yX0_take, Cond.initialized RX0, Cond.code yX0_take cX0_take 3 none, Cond.fieldLink RX0 18 "FilledForOne$Arrivals" "count" "I", Cond.fieldLink RX0 22 "FilledForOne$Day" "known" "I", Cond.fieldLink RX0 9 "FilledForOne$Arrivals" "minutes" "[I", Cond.fieldLink RX0 27 "FilledForOne$Day" "comers" "[LFilledForOne$Comer;", Cond.fieldLink RX0 31 "FilledForOne$Comer" "minute" "I", Cond.fieldLink RX0 36 "FilledForOne$Comer" "wants" "I", Cond.methodLink RX0 38 yX0_insert, Cond.instanceMethod yX0_insert, Cond.selects RX0 yX0_insert yX0_insert, Cond.code yX0_insert cX0_insert 4 none, Cond.fieldLink RX0 15 "FilledForOne$Arrivals" "wants" "[I"]
def wsX6_better_r2 : List Cond := [Cond.methodLink RX6 185 yX0_bestSeats, Cond.instanceMethod yX0_bestSeats, Cond.selects RX0 yX0_bestSeats yX0_bestSeats, Cond.code yX0_bestSeats cX0_bestSeats 6 (some .int), Cond.methodLink RX0 68 yX0_waitedForTimes, Cond.instanceMethod yX0_waitedForTimes, Cond.selects RX0 yX0_waitedForTimes yX0_waitedForTimes, Cond.code yX0_waitedForTimes cX0_waitedForTimes 4 (some .int), Cond.methodLink RX0 65 yJ9_floorMod_7cf53, Cond.static yJ9_floorMod_7cf53, Cond.initialized RJ9, Cond.code yJ9_floorMod_7cf53 cJ9_floorMod_7cf53 3 (some .int), Cond.methodLink RX0 72 yX0_waitedForSeats, Cond.instanceMethod yX0_waitedForSeats, Cond.selects RX0 yX0_waitedForSeats yX0_waitedForSeats, Cond.code yX0_waitedForSeats cX0_waitedForSeats 6 (some .int), Cond.methodLink RX0 62 yX0_waitedTill, Cond.instanceMethod yX0_waitedTill, Cond.selects RX0 yX0_waitedTill yX0_waitedTill, Cond.code yX0_waitedTill cX0_waitedTill 6 (some .int)]
def wsX6_better : List Cond := .code yX6_better cX6_better 2 (some .int) :: ((wsX6_better_r1 ++ wsX6_better_r2) ++ wsX60 ++ wsX00 ++ wsX20 ++ wsX10)
def wsX6_follow_r1 : List Cond := [Cond.fieldLink RX6 22 "FilledForOne" "mind" "LFilledForOne$Mind;", Cond.fieldLink RX6 10 "FilledForOne" "now" "LFilledForOne$Day;", Cond.methodLink RX6 58 yX5_take, Cond.instanceMethod yX5_take, Cond.selects RX5 yX5_take yX5_take, Cond.initialized RX5, Cond.code yX5_take cX5_take 2 none, Cond.fieldLink RX5 12 "FilledForOne$Mind" "day" "LFilledForOne$Day;", Cond.methodLink RX5 18 yX2_copy, Cond.instanceMethod yX2_copy, Cond.selects RX2 yX2_copy yX2_copy, Cond.initialized RX2, Cond.code yX2_copy cX2_copy 3 none, Cond.fieldLink RX2 18 "FilledForOne$Day" "settings" "[I", Cond.methodLink RX2 40 arraycopyName, Cond.native arraycopyName, Cond.static arraycopyName, Cond.initialized "java/lang/System", Cond.fieldLink RX2 37 "FilledForOne$Day" "line" "[I", Cond.fieldLink RX2 46 "FilledForOne$Day" "known" "I", Cond.fieldLink RX2 50 "FilledForOne$Day" "lined" "I", Cond.fieldLink RX2 53 "FilledForOne$Day" "minute" "I", Cond.fieldLink RX2 25 "FilledForOne$Day" "comers" "[LFilledForOne$Comer;", Cond.fieldLink RX2 32 "FilledForOne$Day" "kettles" "[LFilledForOne$Kettle;"]
def wsX6_follow_r2 : List Cond := [Cond.methodLink RX2 56 yX1_copy, Cond.instanceMethod yX1_copy, Cond.selects RX1 yX1_copy yX1_copy, Cond.initialized RX1, Cond.code yX1_copy cX1_copy 2 none, Cond.fieldLink RX1 9 "FilledForOne$Comer" "kind" "I", Cond.fieldLink RX1 15 "FilledForOne$Comer" "figure" "I", Cond.fieldLink RX1 22 "FilledForOne$Comer" "minute" "I", Cond.fieldLink RX1 25 "FilledForOne$Comer" "wants" "I", Cond.fieldLink RX1 28 "FilledForOne$Comer" "patience" "I", Cond.fieldLink RX1 31 "FilledForOne$Comer" "state" "I", Cond.fieldLink RX1 34 "FilledForOne$Comer" "servedAt" "I", Cond.methodLink RX1 18 yX1_become, Cond.instanceMethod yX1_become, Cond.selects RX1 yX1_become yX1_become, Cond.code yX1_become cX1_become 3 none, Cond.methodLink RX2 60 yX3_copy, Cond.instanceMethod yX3_copy, Cond.selects RX3 yX3_copy yX3_copy, Cond.initialized RX3, Cond.code yX3_copy cX3_copy 2 none, Cond.fieldLink RX3 9 "FilledForOne$Kettle" "level" "I", Cond.fieldLink RX3 15 "FilledForOne$Kettle" "warmth" "I", Cond.fieldLink RX3 18 "FilledForOne$Kettle" "age" "I"]
def wsX6_follow_r3 : List Cond := [Cond.fieldLink RX3 21 "FilledForOne$Kettle" "busyTill" "I", Cond.fieldLink RX3 24 "FilledForOne$Kettle" "putOnBy" "I", Cond.methodLink RX6 188 yX5_comerToFollow, Cond.instanceMethod yX5_comerToFollow, Cond.selects RX5 yX5_comerToFollow yX5_comerToFollow, Cond.code yX5_comerToFollow cX5_comerToFollow 7 (some .int), Cond.constant RX5 71 (2147483647), Cond.fieldLink RX5 78 "FilledForOne$Day" "known" "I", Cond.fieldLink RX5 44 "FilledForOne$Day" "comers" "[LFilledForOne$Comer;", Cond.fieldLink RX5 66 "FilledForOne$Comer" "kind" "I", Cond.fieldLink RX5 95 "FilledForOne$Comer" "figure" "I", Cond.methodLink RX5 98 yX1_become, Cond.methodLink RX5 72 yX5_costAnew, Cond.instanceMethod yX5_costAnew, Cond.selects RX5 yX5_costAnew yX5_costAnew, Cond.code yX5_costAnew cX5_costAnew 2 (some .int), Cond.methodLink RX5 56 yX2_begin, Cond.instanceMethod yX2_begin, Cond.selects RX2 yX2_begin yX2_begin, Cond.code yX2_begin cX2_begin 2 none, Cond.fieldLink RX2 63 "FilledForOne$Comer" "state" "I", Cond.methodLink RX2 66 yX3_begin, Cond.instanceMethod yX3_begin, Cond.selects RX3 yX3_begin yX3_begin]
def wsX6_follow_r4 : List Cond := [Cond.code yX3_begin cX3_begin 1 none, Cond.methodLink RX5 59 yX2_isOver, Cond.instanceMethod yX2_isOver, Cond.selects RX2 yX2_isOver yX2_isOver, Cond.code yX2_isOver cX2_isOver 1 (some .boolean), Cond.methodLink RX2 90 yX2_comersWith, Cond.instanceMethod yX2_comersWith, Cond.selects RX2 yX2_comersWith yX2_comersWith, Cond.code yX2_comersWith cX2_comersWith 4 (some .int), Cond.methodLink RX2 94 yX2_allFree, Cond.instanceMethod yX2_allFree, Cond.selects RX2 yX2_allFree yX2_allFree, Cond.code yX2_allFree cX2_allFree 2 (some .boolean), Cond.methodLink RX2 98 yX2_kettlesInUse, Cond.instanceMethod yX2_kettlesInUse, Cond.selects RX2 yX2_kettlesInUse yX2_kettlesInUse, Cond.code yX2_kettlesInUse cX2_kettlesInUse 1 (some .int), Cond.methodLink RX2 101 yX3_isFree, Cond.instanceMethod yX3_isFree, Cond.selects RX3 yX3_isFree yX3_isFree, Cond.code yX3_isFree cX3_isFree 2 (some .boolean), Cond.methodLink RX5 63 yX2_passMinute, Cond.instanceMethod yX2_passMinute, Cond.selects RX2 yX2_passMinute yX2_passMinute]
def wsX6_follow_r5 : List Cond := [Cond.code yX2_passMinute cX2_passMinute 2 none, Cond.methodLink RX2 111 yX2_lineUp, Cond.instanceMethod yX2_lineUp, Cond.selects RX2 yX2_lineUp yX2_lineUp, Cond.code yX2_lineUp cX2_lineUp 2 none, Cond.fieldLink RX2 83 "FilledForOne$Comer" "minute" "I", Cond.methodLink RX2 114 yX2_loseImpatient, Cond.instanceMethod yX2_loseImpatient, Cond.selects RX2 yX2_loseImpatient yX2_loseImpatient, Cond.code yX2_loseImpatient cX2_loseImpatient 3 none, Cond.fieldLink RX2 87 "FilledForOne$Comer" "patience" "I", Cond.methodLink RX2 124 yX2_closeUp, Cond.instanceMethod yX2_closeUp, Cond.selects RX2 yX2_closeUp yX2_closeUp, Cond.code yX2_closeUp cX2_closeUp 3 none, Cond.methodLink RX2 117 yX2_serve, Cond.instanceMethod yX2_serve, Cond.selects RX2 yX2_serve yX2_serve, Cond.code yX2_serve cX2_serve 4 (some .boolean), Cond.fieldLink RX2 84 "FilledForOne$Comer" "wants" "I", Cond.fieldLink RX2 134 "FilledForOne$Kettle" "level" "I", Cond.fieldLink RX2 137 "FilledForOne$Comer" "servedAt" "I", Cond.methodLink RX2 130 yX2_firstReady, Cond.instanceMethod yX2_firstReady]
def wsX6_follow_r6 : List Cond := [Cond.selects RX2 yX2_firstReady yX2_firstReady, Cond.code yX2_firstReady cX2_firstReady 3 (some (.object "FilledForOne$Kettle")), Cond.methodLink RX2 164 yX3_isReady, Cond.instanceMethod yX3_isReady, Cond.selects RX3 yX3_isReady yX3_isReady, Cond.code yX3_isReady cX3_isReady 3 (some .boolean), Cond.methodLink RX2 120 yX2_boil, Cond.instanceMethod yX2_boil, Cond.selects RX2 yX2_boil yX2_boil, Cond.code yX2_boil cX2_boil 5 none, Cond.fieldLink RX2 147 "FilledForOne$Comer" "kind" "I", Cond.fieldLink RX2 161 "FilledForOne$Day" "boils" "I", Cond.methodLink RX2 140 yX2_firstFree, Cond.instanceMethod yX2_firstFree, Cond.selects RX2 yX2_firstFree yX2_firstFree, Cond.code yX2_firstFree cX2_firstFree 2 (some (.object "FilledForOne$Kettle")), Cond.methodLink RX2 144 yX2_waitsForOwn, Cond.instanceMethod yX2_waitsForOwn, Cond.selects RX2 yX2_waitsForOwn yX2_waitsForOwn, Cond.code yX2_waitsForOwn cX2_waitsForOwn 3 (some .boolean), Cond.fieldLink RX2 168 "FilledForOne$Kettle" "putOnBy" "I", Cond.methodLink RX2 150 yX2_upTo, Cond.instanceMethod yX2_upTo, Cond.selects RX2 yX2_upTo yX2_upTo]
def wsX6_follow_r7 : List Cond := [Cond.code yX2_upTo cX2_upTo 4 (some .int), Cond.fieldLink RX2 177 "FilledForOne$Comer" "figure" "I", Cond.methodLink RX2 183 Lib.Math.max.name, Cond.static Lib.Math.max.name, Cond.initialized "java/lang/Math", Cond.code Lib.Math.max.name Lib.Math.max.code 2 (some .int), Cond.methodLink RX2 189 Lib.Math.min.name, Cond.static Lib.Math.min.name, Cond.code Lib.Math.min.name Lib.Math.min.code 2 (some .int), Cond.methodLink RX2 174 yX2_wantsInLine, Cond.instanceMethod yX2_wantsInLine, Cond.selects RX2 yX2_wantsInLine yX2_wantsInLine, Cond.code yX2_wantsInLine cX2_wantsInLine 3 (some .int), Cond.methodLink RX2 180 yX2_wantsToCome, Cond.instanceMethod yX2_wantsToCome, Cond.selects RX2 yX2_wantsToCome yX2_wantsToCome, Cond.code yX2_wantsToCome cX2_wantsToCome 4 (some .int), Cond.methodLink RX2 154 yX3_fill, Cond.instanceMethod yX3_fill, Cond.selects RX3 yX3_fill yX3_fill, Cond.code yX3_fill cX3_fill 2 none, Cond.methodLink RX2 157 yX3_putOn, Cond.instanceMethod yX3_putOn, Cond.selects RX3 yX3_putOn yX3_putOn]
def wsX6_follow_r8 : List Cond := [Cond.code yX3_putOn cX3_putOn 4 none, Cond.static yX6_heatingMinutes, Cond.initialized RX6, Cond.code yX6_heatingMinutes cX6_heatingMinutes 4 (some .int), Cond.methodLink RX2 127 yX2_coolDown, Cond.instanceMethod yX2_coolDown, Cond.selects RX2 yX2_coolDown yX2_coolDown, Cond.code yX2_coolDown cX2_coolDown 2 none, Cond.methodLink RX2 171 yX3_cool, Cond.instanceMethod yX3_cool, Cond.selects RX3 yX3_cool yX3_cool, Cond.code yX3_cool cX3_cool 2 none, Cond.methodLink RX3 31 Lib.Math.max.name, Cond.methodLink RX5 41 yX2_cost, Cond.instanceMethod yX2_cost, Cond.selects RX2 yX2_cost yX2_cost, Cond.code yX2_cost cX2_cost 1 (some .int), Cond.methodLink RX2 195 yX2_allWaited, Cond.instanceMethod yX2_allWaited, Cond.selects RX2 yX2_allWaited yX2_allWaited, Cond.code yX2_allWaited cX2_allWaited 3 (some .int), Cond.methodLink RX2 192 yX1_waited, Cond.instanceMethod yX1_waited, Cond.selects RX1 yX1_waited yX1_waited]
def wsX6_follow_r9 : List Cond := [Cond.code yX1_waited cX1_waited 1 (some .int), Cond.methodLink RX2 198 yX2_cupsLeft, Cond.instanceMethod yX2_cupsLeft, Cond.selects RX2 yX2_cupsLeft yX2_cupsLeft, Cond.code yX2_cupsLeft cX2_cupsLeft 3 (some .int)]
def wsX6_follow : List Cond := .code yX6_follow cX6_follow 1 (some .int) :: ((wsX6_follow_r1 ++ (wsX6_follow_r2 ++ (wsX6_follow_r3 ++ (wsX6_follow_r4 ++ (wsX6_follow_r5 ++ (wsX6_follow_r6 ++ (wsX6_follow_r7 ++ (wsX6_follow_r8 ++ wsX6_follow_r9)))))))) ++ wsX60 ++ wsX50 ++ wsX20 ++ wsX10 ++ wsX30)
def wsX6_row : List Cond := .code yX6_row cX6_row 2 (some .int) :: ([.fieldLink RX6 191 "FilledForOne" "inRow" "I", .fieldLink RX6 40 "FilledForOne" "row" "[I", .methodLink RX6 47 yX6_refuse, .instanceMethod yX6_refuse, .selects RX6 yX6_refuse yX6_refuse, .initialized RX6, .code yX6_refuse cX6_refuse 3 (some .int), .fieldLink RX6 44 "FilledForOne" "refusals" "[I"] ++ wsX60)
def wsX6_judge_r1 : List Cond := [Cond.fieldLink RX6 22 "FilledForOne" "mind" "LFilledForOne$Mind;", Cond.fieldLink RX6 10 "FilledForOne" "now" "LFilledForOne$Day;", Cond.fieldLink RX6 40 "FilledForOne" "row" "[I", Cond.fieldLink RX6 191 "FilledForOne" "inRow" "I", Cond.methodLink RX6 58 yX5_take, Cond.instanceMethod yX5_take, Cond.selects RX5 yX5_take yX5_take, Cond.initialized RX5, Cond.code yX5_take cX5_take 2 none, Cond.fieldLink RX5 12 "FilledForOne$Mind" "day" "LFilledForOne$Day;", Cond.methodLink RX5 18 yX2_copy, Cond.instanceMethod yX2_copy, Cond.selects RX2 yX2_copy yX2_copy, Cond.initialized RX2, Cond.code yX2_copy cX2_copy 3 none, Cond.fieldLink RX2 18 "FilledForOne$Day" "settings" "[I", Cond.methodLink RX2 40 arraycopyName, Cond.native arraycopyName, Cond.static arraycopyName, Cond.initialized "java/lang/System", Cond.fieldLink RX2 37 "FilledForOne$Day" "line" "[I", Cond.fieldLink RX2 46 "FilledForOne$Day" "known" "I", Cond.fieldLink RX2 50 "FilledForOne$Day" "lined" "I", Cond.fieldLink RX2 53 "FilledForOne$Day" "minute" "I"]
def wsX6_judge_r2 : List Cond := [Cond.fieldLink RX2 25 "FilledForOne$Day" "comers" "[LFilledForOne$Comer;", Cond.fieldLink RX2 32 "FilledForOne$Day" "kettles" "[LFilledForOne$Kettle;", Cond.methodLink RX2 56 yX1_copy, Cond.instanceMethod yX1_copy, Cond.selects RX1 yX1_copy yX1_copy, Cond.initialized RX1, Cond.code yX1_copy cX1_copy 2 none, Cond.fieldLink RX1 9 "FilledForOne$Comer" "kind" "I", Cond.fieldLink RX1 15 "FilledForOne$Comer" "figure" "I", Cond.fieldLink RX1 22 "FilledForOne$Comer" "minute" "I", Cond.fieldLink RX1 25 "FilledForOne$Comer" "wants" "I", Cond.fieldLink RX1 28 "FilledForOne$Comer" "patience" "I", Cond.fieldLink RX1 31 "FilledForOne$Comer" "state" "I", Cond.fieldLink RX1 34 "FilledForOne$Comer" "servedAt" "I", Cond.methodLink RX1 18 yX1_become, Cond.instanceMethod yX1_become, Cond.selects RX1 yX1_become yX1_become, Cond.code yX1_become cX1_become 3 none, Cond.methodLink RX2 60 yX3_copy, Cond.instanceMethod yX3_copy, Cond.selects RX3 yX3_copy yX3_copy, Cond.initialized RX3, Cond.code yX3_copy cX3_copy 2 none, Cond.fieldLink RX3 9 "FilledForOne$Kettle" "level" "I"]
def wsX6_judge_r3 : List Cond := [Cond.fieldLink RX3 15 "FilledForOne$Kettle" "warmth" "I", Cond.fieldLink RX3 18 "FilledForOne$Kettle" "age" "I", Cond.fieldLink RX3 21 "FilledForOne$Kettle" "busyTill" "I", Cond.fieldLink RX3 24 "FilledForOne$Kettle" "putOnBy" "I", Cond.methodLink RX6 194 yX5_firstOtherLevel, Cond.instanceMethod yX5_firstOtherLevel, Cond.selects RX5 yX5_firstOtherLevel yX5_firstOtherLevel, Cond.code yX5_firstOtherLevel cX5_firstOtherLevel 4 (some .int), Cond.fieldLink RX5 102 "FilledForOne$Day" "kettles" "[LFilledForOne$Kettle;", Cond.fieldLink RX5 106 "FilledForOne$Kettle" "level" "I", Cond.methodLink RX5 26 yX2_pass, Cond.instanceMethod yX2_pass, Cond.selects RX2 yX2_pass yX2_pass, Cond.code yX2_pass cX2_pass 3 none, Cond.methodLink RX2 105 yX2_isOver, Cond.instanceMethod yX2_isOver, Cond.selects RX2 yX2_isOver yX2_isOver, Cond.code yX2_isOver cX2_isOver 1 (some .boolean), Cond.methodLink RX2 90 yX2_comersWith, Cond.instanceMethod yX2_comersWith, Cond.selects RX2 yX2_comersWith yX2_comersWith, Cond.code yX2_comersWith cX2_comersWith 4 (some .int), Cond.fieldLink RX2 63 "FilledForOne$Comer" "state" "I", Cond.methodLink RX2 94 yX2_allFree]
def wsX6_judge_r4 : List Cond := [Cond.instanceMethod yX2_allFree, Cond.selects RX2 yX2_allFree yX2_allFree, Cond.code yX2_allFree cX2_allFree 2 (some .boolean), Cond.methodLink RX2 98 yX2_kettlesInUse, Cond.instanceMethod yX2_kettlesInUse, Cond.selects RX2 yX2_kettlesInUse yX2_kettlesInUse, Cond.code yX2_kettlesInUse cX2_kettlesInUse 1 (some .int), Cond.methodLink RX2 101 yX3_isFree, Cond.instanceMethod yX3_isFree, Cond.selects RX3 yX3_isFree yX3_isFree, Cond.code yX3_isFree cX3_isFree 2 (some .boolean), Cond.methodLink RX2 108 yX2_passMinute, Cond.instanceMethod yX2_passMinute, Cond.selects RX2 yX2_passMinute yX2_passMinute, Cond.code yX2_passMinute cX2_passMinute 2 none, Cond.methodLink RX2 111 yX2_lineUp, Cond.instanceMethod yX2_lineUp, Cond.selects RX2 yX2_lineUp yX2_lineUp, Cond.code yX2_lineUp cX2_lineUp 2 none, Cond.fieldLink RX2 83 "FilledForOne$Comer" "minute" "I", Cond.methodLink RX2 114 yX2_loseImpatient, Cond.instanceMethod yX2_loseImpatient, Cond.selects RX2 yX2_loseImpatient yX2_loseImpatient, Cond.code yX2_loseImpatient cX2_loseImpatient 3 none]
def wsX6_judge_r5 : List Cond := [Cond.fieldLink RX2 87 "FilledForOne$Comer" "patience" "I", Cond.methodLink RX2 124 yX2_closeUp, Cond.instanceMethod yX2_closeUp, Cond.selects RX2 yX2_closeUp yX2_closeUp, Cond.code yX2_closeUp cX2_closeUp 3 none, Cond.methodLink RX2 117 yX2_serve, Cond.instanceMethod yX2_serve, Cond.selects RX2 yX2_serve yX2_serve, Cond.code yX2_serve cX2_serve 4 (some .boolean), Cond.fieldLink RX2 84 "FilledForOne$Comer" "wants" "I", Cond.fieldLink RX2 134 "FilledForOne$Kettle" "level" "I", Cond.fieldLink RX2 137 "FilledForOne$Comer" "servedAt" "I", Cond.methodLink RX2 130 yX2_firstReady, Cond.instanceMethod yX2_firstReady, Cond.selects RX2 yX2_firstReady yX2_firstReady, Cond.code yX2_firstReady cX2_firstReady 3 (some (.object "FilledForOne$Kettle")), Cond.methodLink RX2 164 yX3_isReady, Cond.instanceMethod yX3_isReady, Cond.selects RX3 yX3_isReady yX3_isReady, Cond.code yX3_isReady cX3_isReady 3 (some .boolean), Cond.methodLink RX2 120 yX2_boil, Cond.instanceMethod yX2_boil, Cond.selects RX2 yX2_boil yX2_boil, Cond.code yX2_boil cX2_boil 5 none]
def wsX6_judge_r6 : List Cond := [Cond.fieldLink RX2 147 "FilledForOne$Comer" "kind" "I", Cond.fieldLink RX2 161 "FilledForOne$Day" "boils" "I", Cond.methodLink RX2 140 yX2_firstFree, Cond.instanceMethod yX2_firstFree, Cond.selects RX2 yX2_firstFree yX2_firstFree, Cond.code yX2_firstFree cX2_firstFree 2 (some (.object "FilledForOne$Kettle")), Cond.methodLink RX2 144 yX2_waitsForOwn, Cond.instanceMethod yX2_waitsForOwn, Cond.selects RX2 yX2_waitsForOwn yX2_waitsForOwn, Cond.code yX2_waitsForOwn cX2_waitsForOwn 3 (some .boolean), Cond.fieldLink RX2 168 "FilledForOne$Kettle" "putOnBy" "I", Cond.methodLink RX2 150 yX2_upTo, Cond.instanceMethod yX2_upTo, Cond.selects RX2 yX2_upTo yX2_upTo, Cond.code yX2_upTo cX2_upTo 4 (some .int), Cond.fieldLink RX2 177 "FilledForOne$Comer" "figure" "I", Cond.methodLink RX2 183 Lib.Math.max.name, Cond.static Lib.Math.max.name, Cond.initialized "java/lang/Math", Cond.code Lib.Math.max.name Lib.Math.max.code 2 (some .int), Cond.methodLink RX2 189 Lib.Math.min.name, Cond.static Lib.Math.min.name, Cond.code Lib.Math.min.name Lib.Math.min.code 2 (some .int), Cond.methodLink RX2 174 yX2_wantsInLine]
def wsX6_judge_r7 : List Cond := [Cond.instanceMethod yX2_wantsInLine, Cond.selects RX2 yX2_wantsInLine yX2_wantsInLine, Cond.code yX2_wantsInLine cX2_wantsInLine 3 (some .int), Cond.methodLink RX2 180 yX2_wantsToCome, Cond.instanceMethod yX2_wantsToCome, Cond.selects RX2 yX2_wantsToCome yX2_wantsToCome, Cond.code yX2_wantsToCome cX2_wantsToCome 4 (some .int), Cond.methodLink RX2 154 yX3_fill, Cond.instanceMethod yX3_fill, Cond.selects RX3 yX3_fill yX3_fill, Cond.code yX3_fill cX3_fill 2 none, Cond.methodLink RX2 157 yX3_putOn, Cond.instanceMethod yX3_putOn, Cond.selects RX3 yX3_putOn yX3_putOn, Cond.code yX3_putOn cX3_putOn 4 none, Cond.static yX6_heatingMinutes, Cond.initialized RX6, Cond.code yX6_heatingMinutes cX6_heatingMinutes 4 (some .int), Cond.methodLink RX2 127 yX2_coolDown, Cond.instanceMethod yX2_coolDown, Cond.selects RX2 yX2_coolDown yX2_coolDown, Cond.code yX2_coolDown cX2_coolDown 2 none, Cond.methodLink RX2 171 yX3_cool, Cond.instanceMethod yX3_cool]
def wsX6_judge_r8 : List Cond := [Cond.selects RX3 yX3_cool yX3_cool, Cond.code yX3_cool cX3_cool 2 none, Cond.methodLink RX3 31 Lib.Math.max.name]
def wsX6_judge : List Cond := .code yX6_judge cX6_judge 2 (some .int) :: ((wsX6_judge_r1 ++ (wsX6_judge_r2 ++ (wsX6_judge_r3 ++ (wsX6_judge_r4 ++ (wsX6_judge_r5 ++ (wsX6_judge_r6 ++ (wsX6_judge_r7 ++ wsX6_judge_r8))))))) ++ wsX60 ++ wsX50 ++ wsX20 ++ wsX10 ++ wsX30)
def wsX6_fits_r1 : List Cond := [Cond.fieldLink RX6 10 "FilledForOne" "now" "LFilledForOne$Day;", Cond.methodLink RX6 47 yX6_refuse, Cond.instanceMethod yX6_refuse, Cond.selects RX6 yX6_refuse yX6_refuse, Cond.initialized RX6, Cond.code yX6_refuse cX6_refuse 3 (some .int), Cond.fieldLink RX6 44 "FilledForOne" "refusals" "[I", Cond.methodLink RX6 198 yX2_kindsThatFill, Cond.instanceMethod yX2_kindsThatFill, Cond.selects RX2 yX2_kindsThatFill yX2_kindsThatFill, Cond.initialized RX2, Cond.code yX2_kindsThatFill cX2_kindsThatFill 4 (some .int), Cond.fieldLink RX2 50 "FilledForOne$Day" "lined" "I", Cond.fieldLink RX2 25 "FilledForOne$Day" "comers" "[LFilledForOne$Comer;", Cond.fieldLink RX2 37 "FilledForOne$Day" "line" "[I", Cond.methodLink RX2 150 yX2_upTo, Cond.instanceMethod yX2_upTo, Cond.selects RX2 yX2_upTo yX2_upTo, Cond.code yX2_upTo cX2_upTo 4 (some .int), Cond.fieldLink RX2 84 "FilledForOne$Comer" "wants" "I", Cond.fieldLink RX2 18 "FilledForOne$Day" "settings" "[I", Cond.fieldLink RX2 53 "FilledForOne$Day" "minute" "I", Cond.fieldLink RX2 177 "FilledForOne$Comer" "figure" "I", Cond.methodLink RX2 183 Lib.Math.max.name]
def wsX6_fits_r2 : List Cond := [Cond.static Lib.Math.max.name, Cond.initialized "java/lang/Math", Cond.code Lib.Math.max.name Lib.Math.max.code 2 (some .int), Cond.methodLink RX2 189 Lib.Math.min.name, Cond.static Lib.Math.min.name, Cond.code Lib.Math.min.name Lib.Math.min.code 2 (some .int), Cond.methodLink RX2 174 yX2_wantsInLine, Cond.instanceMethod yX2_wantsInLine, Cond.selects RX2 yX2_wantsInLine yX2_wantsInLine, Cond.code yX2_wantsInLine cX2_wantsInLine 3 (some .int), Cond.fieldLink RX2 46 "FilledForOne$Day" "known" "I", Cond.fieldLink RX2 63 "FilledForOne$Comer" "state" "I", Cond.methodLink RX2 180 yX2_wantsToCome, Cond.instanceMethod yX2_wantsToCome, Cond.selects RX2 yX2_wantsToCome yX2_wantsToCome, Cond.code yX2_wantsToCome cX2_wantsToCome 4 (some .int), Cond.fieldLink RX2 83 "FilledForOne$Comer" "minute" "I"]
def wsX6_fits : List Cond := .code yX6_fits cX6_fits 2 (some .int) :: ((wsX6_fits_r1 ++ wsX6_fits_r2) ++ wsX60 ++ wsX20 ++ wsX10)
def wsX6_seeds_r1 : List Cond := [Cond.fieldLink RX6 22 "FilledForOne" "mind" "LFilledForOne$Mind;", Cond.fieldLink RX6 10 "FilledForOne" "now" "LFilledForOne$Day;", Cond.methodLink RX6 47 yX6_refuse, Cond.instanceMethod yX6_refuse, Cond.selects RX6 yX6_refuse yX6_refuse, Cond.initialized RX6, Cond.code yX6_refuse cX6_refuse 3 (some .int), Cond.fieldLink RX6 44 "FilledForOne" "refusals" "[I", Cond.methodLink RX6 58 yX5_take, Cond.instanceMethod yX5_take, Cond.selects RX5 yX5_take yX5_take, Cond.initialized RX5, Cond.code yX5_take cX5_take 2 none, Cond.fieldLink RX5 12 "FilledForOne$Mind" "day" "LFilledForOne$Day;", Cond.methodLink RX5 18 yX2_copy, Cond.instanceMethod yX2_copy, Cond.selects RX2 yX2_copy yX2_copy, Cond.initialized RX2, Cond.code yX2_copy cX2_copy 3 none, Cond.fieldLink RX2 18 "FilledForOne$Day" "settings" "[I", Cond.methodLink RX2 40 arraycopyName, Cond.native arraycopyName, Cond.static arraycopyName, Cond.initialized "java/lang/System"]
def wsX6_seeds_r2 : List Cond := [Cond.fieldLink RX2 37 "FilledForOne$Day" "line" "[I", Cond.fieldLink RX2 46 "FilledForOne$Day" "known" "I", Cond.fieldLink RX2 50 "FilledForOne$Day" "lined" "I", Cond.fieldLink RX2 53 "FilledForOne$Day" "minute" "I", Cond.fieldLink RX2 25 "FilledForOne$Day" "comers" "[LFilledForOne$Comer;", Cond.fieldLink RX2 32 "FilledForOne$Day" "kettles" "[LFilledForOne$Kettle;", Cond.methodLink RX2 56 yX1_copy, Cond.instanceMethod yX1_copy, Cond.selects RX1 yX1_copy yX1_copy, Cond.initialized RX1, Cond.code yX1_copy cX1_copy 2 none, Cond.fieldLink RX1 9 "FilledForOne$Comer" "kind" "I", Cond.fieldLink RX1 15 "FilledForOne$Comer" "figure" "I", Cond.fieldLink RX1 22 "FilledForOne$Comer" "minute" "I", Cond.fieldLink RX1 25 "FilledForOne$Comer" "wants" "I", Cond.fieldLink RX1 28 "FilledForOne$Comer" "patience" "I", Cond.fieldLink RX1 31 "FilledForOne$Comer" "state" "I", Cond.fieldLink RX1 34 "FilledForOne$Comer" "servedAt" "I", Cond.methodLink RX1 18 yX1_become, Cond.instanceMethod yX1_become, Cond.selects RX1 yX1_become yX1_become, Cond.code yX1_become cX1_become 3 none, Cond.methodLink RX2 60 yX3_copy, Cond.instanceMethod yX3_copy]
def wsX6_seeds_r3 : List Cond := [Cond.selects RX3 yX3_copy yX3_copy, Cond.initialized RX3, Cond.code yX3_copy cX3_copy 2 none, Cond.fieldLink RX3 9 "FilledForOne$Kettle" "level" "I", Cond.fieldLink RX3 15 "FilledForOne$Kettle" "warmth" "I", Cond.fieldLink RX3 18 "FilledForOne$Kettle" "age" "I", Cond.fieldLink RX3 21 "FilledForOne$Kettle" "busyTill" "I", Cond.fieldLink RX3 24 "FilledForOne$Kettle" "putOnBy" "I", Cond.methodLink RX6 201 yX5_drawnDays, Cond.instanceMethod yX5_drawnDays, Cond.selects RX5 yX5_drawnDays yX5_drawnDays, Cond.code yX5_drawnDays cX5_drawnDays 8 (some .int), Cond.fieldLink RX5 111 "FilledForOne$Mind" "seed" "I", Cond.fieldLink RX5 78 "FilledForOne$Day" "known" "I", Cond.fieldLink RX5 44 "FilledForOne$Day" "comers" "[LFilledForOne$Comer;", Cond.fieldLink RX5 117 "FilledForOne$Comer" "minute" "I", Cond.methodLink RX5 114 yX5_draw, Cond.instanceMethod yX5_draw, Cond.selects RX5 yX5_draw yX5_draw, Cond.code yX5_draw cX5_draw 2 (some .int), Cond.constant RX5 120 (1103515245), Cond.constant RX5 71 (2147483647), Cond.constant RX5 121 (65536), Cond.methodLink RX5 72 yX5_costAnew]
def wsX6_seeds_r4 : List Cond := [Cond.instanceMethod yX5_costAnew, Cond.selects RX5 yX5_costAnew yX5_costAnew, Cond.code yX5_costAnew cX5_costAnew 2 (some .int), Cond.methodLink RX5 56 yX2_begin, Cond.instanceMethod yX2_begin, Cond.selects RX2 yX2_begin yX2_begin, Cond.code yX2_begin cX2_begin 2 none, Cond.fieldLink RX2 63 "FilledForOne$Comer" "state" "I", Cond.methodLink RX2 66 yX3_begin, Cond.instanceMethod yX3_begin, Cond.selects RX3 yX3_begin yX3_begin, Cond.code yX3_begin cX3_begin 1 none, Cond.methodLink RX5 59 yX2_isOver, Cond.instanceMethod yX2_isOver, Cond.selects RX2 yX2_isOver yX2_isOver, Cond.code yX2_isOver cX2_isOver 1 (some .boolean), Cond.methodLink RX2 90 yX2_comersWith, Cond.instanceMethod yX2_comersWith, Cond.selects RX2 yX2_comersWith yX2_comersWith, Cond.code yX2_comersWith cX2_comersWith 4 (some .int), Cond.methodLink RX2 94 yX2_allFree, Cond.instanceMethod yX2_allFree, Cond.selects RX2 yX2_allFree yX2_allFree, Cond.code yX2_allFree cX2_allFree 2 (some .boolean)]
def wsX6_seeds_r5 : List Cond := [Cond.methodLink RX2 98 yX2_kettlesInUse, Cond.instanceMethod yX2_kettlesInUse, Cond.selects RX2 yX2_kettlesInUse yX2_kettlesInUse, Cond.code yX2_kettlesInUse cX2_kettlesInUse 1 (some .int), Cond.methodLink RX2 101 yX3_isFree, Cond.instanceMethod yX3_isFree, Cond.selects RX3 yX3_isFree yX3_isFree, Cond.code yX3_isFree cX3_isFree 2 (some .boolean), Cond.methodLink RX5 63 yX2_passMinute, Cond.instanceMethod yX2_passMinute, Cond.selects RX2 yX2_passMinute yX2_passMinute, Cond.code yX2_passMinute cX2_passMinute 2 none, Cond.methodLink RX2 111 yX2_lineUp, Cond.instanceMethod yX2_lineUp, Cond.selects RX2 yX2_lineUp yX2_lineUp, Cond.code yX2_lineUp cX2_lineUp 2 none, Cond.fieldLink RX2 83 "FilledForOne$Comer" "minute" "I", Cond.methodLink RX2 114 yX2_loseImpatient, Cond.instanceMethod yX2_loseImpatient, Cond.selects RX2 yX2_loseImpatient yX2_loseImpatient, Cond.code yX2_loseImpatient cX2_loseImpatient 3 none, Cond.fieldLink RX2 87 "FilledForOne$Comer" "patience" "I", Cond.methodLink RX2 124 yX2_closeUp, Cond.instanceMethod yX2_closeUp]
def wsX6_seeds_r6 : List Cond := [Cond.selects RX2 yX2_closeUp yX2_closeUp, Cond.code yX2_closeUp cX2_closeUp 3 none, Cond.methodLink RX2 117 yX2_serve, Cond.instanceMethod yX2_serve, Cond.selects RX2 yX2_serve yX2_serve, Cond.code yX2_serve cX2_serve 4 (some .boolean), Cond.fieldLink RX2 84 "FilledForOne$Comer" "wants" "I", Cond.fieldLink RX2 134 "FilledForOne$Kettle" "level" "I", Cond.fieldLink RX2 137 "FilledForOne$Comer" "servedAt" "I", Cond.methodLink RX2 130 yX2_firstReady, Cond.instanceMethod yX2_firstReady, Cond.selects RX2 yX2_firstReady yX2_firstReady, Cond.code yX2_firstReady cX2_firstReady 3 (some (.object "FilledForOne$Kettle")), Cond.methodLink RX2 164 yX3_isReady, Cond.instanceMethod yX3_isReady, Cond.selects RX3 yX3_isReady yX3_isReady, Cond.code yX3_isReady cX3_isReady 3 (some .boolean), Cond.methodLink RX2 120 yX2_boil, Cond.instanceMethod yX2_boil, Cond.selects RX2 yX2_boil yX2_boil, Cond.code yX2_boil cX2_boil 5 none, Cond.fieldLink RX2 147 "FilledForOne$Comer" "kind" "I", Cond.fieldLink RX2 161 "FilledForOne$Day" "boils" "I", Cond.methodLink RX2 140 yX2_firstFree]
def wsX6_seeds_r7 : List Cond := [Cond.instanceMethod yX2_firstFree, Cond.selects RX2 yX2_firstFree yX2_firstFree, Cond.code yX2_firstFree cX2_firstFree 2 (some (.object "FilledForOne$Kettle")), Cond.methodLink RX2 144 yX2_waitsForOwn, Cond.instanceMethod yX2_waitsForOwn, Cond.selects RX2 yX2_waitsForOwn yX2_waitsForOwn, Cond.code yX2_waitsForOwn cX2_waitsForOwn 3 (some .boolean), Cond.fieldLink RX2 168 "FilledForOne$Kettle" "putOnBy" "I", Cond.methodLink RX2 150 yX2_upTo, Cond.instanceMethod yX2_upTo, Cond.selects RX2 yX2_upTo yX2_upTo, Cond.code yX2_upTo cX2_upTo 4 (some .int), Cond.fieldLink RX2 177 "FilledForOne$Comer" "figure" "I", Cond.methodLink RX2 183 Lib.Math.max.name, Cond.static Lib.Math.max.name, Cond.initialized "java/lang/Math", Cond.code Lib.Math.max.name Lib.Math.max.code 2 (some .int), Cond.methodLink RX2 189 Lib.Math.min.name, Cond.static Lib.Math.min.name, Cond.code Lib.Math.min.name Lib.Math.min.code 2 (some .int), Cond.methodLink RX2 174 yX2_wantsInLine, Cond.instanceMethod yX2_wantsInLine, Cond.selects RX2 yX2_wantsInLine yX2_wantsInLine, Cond.code yX2_wantsInLine cX2_wantsInLine 3 (some .int)]
def wsX6_seeds_r8 : List Cond := [Cond.methodLink RX2 180 yX2_wantsToCome, Cond.instanceMethod yX2_wantsToCome, Cond.selects RX2 yX2_wantsToCome yX2_wantsToCome, Cond.code yX2_wantsToCome cX2_wantsToCome 4 (some .int), Cond.methodLink RX2 154 yX3_fill, Cond.instanceMethod yX3_fill, Cond.selects RX3 yX3_fill yX3_fill, Cond.code yX3_fill cX3_fill 2 none, Cond.methodLink RX2 157 yX3_putOn, Cond.instanceMethod yX3_putOn, Cond.selects RX3 yX3_putOn yX3_putOn, Cond.code yX3_putOn cX3_putOn 4 none, Cond.static yX6_heatingMinutes, Cond.code yX6_heatingMinutes cX6_heatingMinutes 4 (some .int), Cond.methodLink RX2 127 yX2_coolDown, Cond.instanceMethod yX2_coolDown, Cond.selects RX2 yX2_coolDown yX2_coolDown, Cond.code yX2_coolDown cX2_coolDown 2 none, Cond.methodLink RX2 171 yX3_cool, Cond.instanceMethod yX3_cool, Cond.selects RX3 yX3_cool yX3_cool, Cond.code yX3_cool cX3_cool 2 none, Cond.methodLink RX3 31 Lib.Math.max.name, Cond.methodLink RX5 41 yX2_cost]
def wsX6_seeds_r9 : List Cond := [Cond.instanceMethod yX2_cost, Cond.selects RX2 yX2_cost yX2_cost, Cond.code yX2_cost cX2_cost 1 (some .int), Cond.methodLink RX2 195 yX2_allWaited, Cond.instanceMethod yX2_allWaited, Cond.selects RX2 yX2_allWaited yX2_allWaited, Cond.code yX2_allWaited cX2_allWaited 3 (some .int), Cond.methodLink RX2 192 yX1_waited, Cond.instanceMethod yX1_waited, Cond.selects RX1 yX1_waited yX1_waited, Cond.code yX1_waited cX1_waited 1 (some .int), Cond.methodLink RX2 198 yX2_cupsLeft, Cond.instanceMethod yX2_cupsLeft, Cond.selects RX2 yX2_cupsLeft yX2_cupsLeft, Cond.code yX2_cupsLeft cX2_cupsLeft 3 (some .int), Cond.methodLink RX5 34 yX2_comersWith]
def wsX6_seeds : List Cond := .code yX6_seeds cX6_seeds 4 (some .int) :: ((wsX6_seeds_r1 ++ (wsX6_seeds_r2 ++ (wsX6_seeds_r3 ++ (wsX6_seeds_r4 ++ (wsX6_seeds_r5 ++ (wsX6_seeds_r6 ++ (wsX6_seeds_r7 ++ (wsX6_seeds_r8 ++ wsX6_seeds_r9)))))))) ++ wsX60 ++ wsX50 ++ wsX20 ++ wsX10 ++ wsX30)
def wsX6_image_r1 : List Cond := [Cond.fieldLink RX6 16 "FilledForOne" "kept" "LFilledForOne$Day;", Cond.fieldLink RX6 10 "FilledForOne" "now" "LFilledForOne$Day;", Cond.fieldLink RX6 205 "FilledForOne" "imageTaken" "Z", Cond.fieldLink RX6 107 "FilledForOne$Day" "minute" "I", Cond.methodLink RX6 69 yX2_copy, Cond.instanceMethod yX2_copy, Cond.selects RX2 yX2_copy yX2_copy, Cond.initialized RX2, Cond.code yX2_copy cX2_copy 3 none, Cond.fieldLink RX2 18 "FilledForOne$Day" "settings" "[I", Cond.methodLink RX2 40 arraycopyName, Cond.native arraycopyName, Cond.static arraycopyName, Cond.initialized "java/lang/System", Cond.fieldLink RX2 37 "FilledForOne$Day" "line" "[I", Cond.fieldLink RX2 46 "FilledForOne$Day" "known" "I", Cond.fieldLink RX2 50 "FilledForOne$Day" "lined" "I", Cond.fieldLink RX2 53 "FilledForOne$Day" "minute" "I", Cond.fieldLink RX2 25 "FilledForOne$Day" "comers" "[LFilledForOne$Comer;", Cond.fieldLink RX2 32 "FilledForOne$Day" "kettles" "[LFilledForOne$Kettle;", Cond.methodLink RX2 56 yX1_copy, Cond.instanceMethod yX1_copy, Cond.selects RX1 yX1_copy yX1_copy, Cond.initialized RX1]
def wsX6_image_r2 : List Cond := [Cond.code yX1_copy cX1_copy 2 none, Cond.fieldLink RX1 9 "FilledForOne$Comer" "kind" "I", Cond.fieldLink RX1 15 "FilledForOne$Comer" "figure" "I", Cond.fieldLink RX1 22 "FilledForOne$Comer" "minute" "I", Cond.fieldLink RX1 25 "FilledForOne$Comer" "wants" "I", Cond.fieldLink RX1 28 "FilledForOne$Comer" "patience" "I", Cond.fieldLink RX1 31 "FilledForOne$Comer" "state" "I", Cond.fieldLink RX1 34 "FilledForOne$Comer" "servedAt" "I", Cond.methodLink RX1 18 yX1_become, Cond.instanceMethod yX1_become, Cond.selects RX1 yX1_become yX1_become, Cond.code yX1_become cX1_become 3 none, Cond.methodLink RX2 60 yX3_copy, Cond.instanceMethod yX3_copy, Cond.selects RX3 yX3_copy yX3_copy, Cond.initialized RX3, Cond.code yX3_copy cX3_copy 2 none, Cond.fieldLink RX3 9 "FilledForOne$Kettle" "level" "I", Cond.fieldLink RX3 15 "FilledForOne$Kettle" "warmth" "I", Cond.fieldLink RX3 18 "FilledForOne$Kettle" "age" "I", Cond.fieldLink RX3 21 "FilledForOne$Kettle" "busyTill" "I", Cond.fieldLink RX3 24 "FilledForOne$Kettle" "putOnBy" "I"]
def wsX6_image : List Cond := .code yX6_image cX6_image 1 (some .int) :: ((wsX6_image_r1 ++ wsX6_image_r2) ++ wsX60 ++ wsX20 ++ wsX10 ++ wsX30)
def wsX6_restore_r1 : List Cond := [Cond.fieldLink RX6 205 "FilledForOne" "imageTaken" "Z", Cond.fieldLink RX6 10 "FilledForOne" "now" "LFilledForOne$Day;", Cond.fieldLink RX6 16 "FilledForOne" "kept" "LFilledForOne$Day;", Cond.fieldLink RX6 107 "FilledForOne$Day" "minute" "I", Cond.methodLink RX6 47 yX6_refuse, Cond.instanceMethod yX6_refuse, Cond.selects RX6 yX6_refuse yX6_refuse, Cond.initialized RX6, Cond.code yX6_refuse cX6_refuse 3 (some .int), Cond.fieldLink RX6 44 "FilledForOne" "refusals" "[I", Cond.methodLink RX6 69 yX2_copy, Cond.instanceMethod yX2_copy, Cond.selects RX2 yX2_copy yX2_copy, Cond.initialized RX2, Cond.code yX2_copy cX2_copy 3 none, Cond.fieldLink RX2 18 "FilledForOne$Day" "settings" "[I", Cond.methodLink RX2 40 arraycopyName, Cond.native arraycopyName, Cond.static arraycopyName, Cond.initialized "java/lang/System", Cond.fieldLink RX2 37 "FilledForOne$Day" "line" "[I", Cond.fieldLink RX2 46 "FilledForOne$Day" "known" "I", Cond.fieldLink RX2 50 "FilledForOne$Day" "lined" "I", Cond.fieldLink RX2 53 "FilledForOne$Day" "minute" "I"]
def wsX6_restore_r2 : List Cond := [Cond.fieldLink RX2 25 "FilledForOne$Day" "comers" "[LFilledForOne$Comer;", Cond.fieldLink RX2 32 "FilledForOne$Day" "kettles" "[LFilledForOne$Kettle;", Cond.methodLink RX2 56 yX1_copy, Cond.instanceMethod yX1_copy, Cond.selects RX1 yX1_copy yX1_copy, Cond.initialized RX1, Cond.code yX1_copy cX1_copy 2 none, Cond.fieldLink RX1 9 "FilledForOne$Comer" "kind" "I", Cond.fieldLink RX1 15 "FilledForOne$Comer" "figure" "I", Cond.fieldLink RX1 22 "FilledForOne$Comer" "minute" "I", Cond.fieldLink RX1 25 "FilledForOne$Comer" "wants" "I", Cond.fieldLink RX1 28 "FilledForOne$Comer" "patience" "I", Cond.fieldLink RX1 31 "FilledForOne$Comer" "state" "I", Cond.fieldLink RX1 34 "FilledForOne$Comer" "servedAt" "I", Cond.methodLink RX1 18 yX1_become, Cond.instanceMethod yX1_become, Cond.selects RX1 yX1_become yX1_become, Cond.code yX1_become cX1_become 3 none, Cond.methodLink RX2 60 yX3_copy, Cond.instanceMethod yX3_copy, Cond.selects RX3 yX3_copy yX3_copy, Cond.initialized RX3, Cond.code yX3_copy cX3_copy 2 none, Cond.fieldLink RX3 9 "FilledForOne$Kettle" "level" "I"]
def wsX6_restore_r3 : List Cond := [Cond.fieldLink RX3 15 "FilledForOne$Kettle" "warmth" "I", Cond.fieldLink RX3 18 "FilledForOne$Kettle" "age" "I", Cond.fieldLink RX3 21 "FilledForOne$Kettle" "busyTill" "I", Cond.fieldLink RX3 24 "FilledForOne$Kettle" "putOnBy" "I"]
def wsX6_restore : List Cond := .code yX6_restore cX6_restore 1 (some .int) :: ((wsX6_restore_r1 ++ (wsX6_restore_r2 ++ wsX6_restore_r3)) ++ wsX60 ++ wsX20 ++ wsX10 ++ wsX30)
def wsX6_count_r1 : List Cond := [Cond.fieldLink RX6 44 "FilledForOne" "refusals" "[I", Cond.fieldLink RX6 10 "FilledForOne" "now" "LFilledForOne$Day;", Cond.fieldLink RX6 209 "FilledForOne$Day" "settings" "[I", Cond.fieldLink RX6 212 "FilledForOne$Day" "known" "I", Cond.fieldLink RX6 107 "FilledForOne$Day" "minute" "I", Cond.fieldLink RX6 132 "FilledForOne$Day" "lined" "I", Cond.fieldLink RX6 36 "FilledForOne" "letters" "LFilledForOne$Letters;", Cond.fieldLink RX6 51 "FilledForOne$Letters" "length" "I", Cond.fieldLink RX6 191 "FilledForOne" "inRow" "I", Cond.methodLink RX6 215 yX2_comersWith, Cond.instanceMethod yX2_comersWith, Cond.selects RX2 yX2_comersWith yX2_comersWith, Cond.initialized RX2, Cond.code yX2_comersWith cX2_comersWith 4 (some .int), Cond.fieldLink RX2 46 "FilledForOne$Day" "known" "I", Cond.fieldLink RX2 25 "FilledForOne$Day" "comers" "[LFilledForOne$Comer;", Cond.fieldLink RX2 63 "FilledForOne$Comer" "state" "I", Cond.methodLink RX6 121 yX2_isOver, Cond.instanceMethod yX2_isOver, Cond.selects RX2 yX2_isOver yX2_isOver, Cond.code yX2_isOver cX2_isOver 1 (some .boolean), Cond.fieldLink RX2 53 "FilledForOne$Day" "minute" "I", Cond.fieldLink RX2 50 "FilledForOne$Day" "lined" "I", Cond.methodLink RX2 90 yX2_comersWith]
def wsX6_count_r2 : List Cond := [Cond.methodLink RX2 94 yX2_allFree, Cond.instanceMethod yX2_allFree, Cond.selects RX2 yX2_allFree yX2_allFree, Cond.code yX2_allFree cX2_allFree 2 (some .boolean), Cond.fieldLink RX2 32 "FilledForOne$Day" "kettles" "[LFilledForOne$Kettle;", Cond.methodLink RX2 98 yX2_kettlesInUse, Cond.instanceMethod yX2_kettlesInUse, Cond.selects RX2 yX2_kettlesInUse yX2_kettlesInUse, Cond.code yX2_kettlesInUse cX2_kettlesInUse 1 (some .int), Cond.fieldLink RX2 18 "FilledForOne$Day" "settings" "[I", Cond.methodLink RX2 101 yX3_isFree, Cond.instanceMethod yX3_isFree, Cond.selects RX3 yX3_isFree yX3_isFree, Cond.initialized RX3, Cond.code yX3_isFree cX3_isFree 2 (some .boolean), Cond.fieldLink RX3 21 "FilledForOne$Kettle" "busyTill" "I", Cond.methodLink RX6 218 yX2_allWaited, Cond.instanceMethod yX2_allWaited, Cond.selects RX2 yX2_allWaited yX2_allWaited, Cond.code yX2_allWaited cX2_allWaited 3 (some .int), Cond.methodLink RX2 192 yX1_waited, Cond.instanceMethod yX1_waited, Cond.selects RX1 yX1_waited yX1_waited, Cond.initialized RX1]
def wsX6_count_r3 : List Cond := [Cond.code yX1_waited cX1_waited 1 (some .int), Cond.fieldLink RX1 31 "FilledForOne$Comer" "state" "I", Cond.fieldLink RX1 34 "FilledForOne$Comer" "servedAt" "I", Cond.fieldLink RX1 22 "FilledForOne$Comer" "minute" "I", Cond.fieldLink RX1 28 "FilledForOne$Comer" "patience" "I"]
def wsX6_count : List Cond := .code yX6_count cX6_count 2 (some .int) :: ((wsX6_count_r1 ++ (wsX6_count_r2 ++ wsX6_count_r3)) ++ wsX60 ++ wsX20 ++ wsX40 ++ wsX10 ++ wsX30)
def wsX7_init_r1 : List Cond := [Cond.methodLink RX7 1 objectInit, Cond.instanceMethod objectInit, Cond.code objectInit ⟨#[0xb1]⟩ 1 none, Cond.arrayClass .int, Cond.fieldLink RX7 7 "FilledForOneModel" "refused" "[I", Cond.fieldLink RX7 13 "FilledForOneModel" "setting" "[I", Cond.fieldLink RX7 16 "FilledForOneModel" "kind" "[I", Cond.fieldLink RX7 19 "FilledForOneModel" "figure" "[I", Cond.fieldLink RX7 22 "FilledForOneModel" "comes" "[I", Cond.fieldLink RX7 25 "FilledForOneModel" "wants" "[I", Cond.fieldLink RX7 28 "FilledForOneModel" "patience" "[I", Cond.fieldLink RX7 31 "FilledForOneModel" "state" "[I", Cond.fieldLink RX7 34 "FilledForOneModel" "waited" "[I", Cond.fieldLink RX7 37 "FilledForOneModel" "line" "[I", Cond.fieldLink RX7 40 "FilledForOneModel" "level" "[I", Cond.fieldLink RX7 43 "FilledForOneModel" "warmth" "[I", Cond.fieldLink RX7 46 "FilledForOneModel" "age" "[I", Cond.fieldLink RX7 49 "FilledForOneModel" "busyTill" "[I", Cond.fieldLink RX7 52 "FilledForOneModel" "putBy" "[I", Cond.fieldLink RX7 55 "FilledForOneModel" "tape" "[I", Cond.fieldLink RX7 58 "FilledForOneModel" "letter" "[I", Cond.fieldLink RX7 61 "FilledForOneModel" "letterAt" "[I", Cond.fieldLink RX7 64 "FilledForOneModel" "told" "[I", Cond.fieldLink RX7 67 "FilledForOneModel" "kept" "[I"]
def wsX7_init_r2 : List Cond := [Cond.fieldLink RX7 70 "FilledForOneModel" "byMinute" "[I", Cond.fieldLink RX7 73 "FilledForOneModel" "row" "[I"]
def wsX7_init : List Cond := .code yX7_init cX7_init 1 none :: ((wsX7_init_r1 ++ wsX7_init_r2) ++ wsX70)
def wsX7_no : List Cond := .code yX7_no cX7_no 2 (some .int) :: ([.fieldLink RX7 7 "FilledForOneModel" "refused" "[I"] ++ wsX70)
def wsX7_lower : List Cond := .code yX7_lower cX7_lower 2 (some .int) :: ([.fieldLink RX7 7 "FilledForOneModel" "refused" "[I", .constant RX7 76 (1000000000)] ++ wsX70)
def wsX7_isIn : List Cond := .code yX7_isIn cX7_isIn 3 (some .boolean) :: ([])
def wsX7_bound : List Cond := .code yX7_bound cX7_bound 3 (some .int) :: ([])
def wsX7_leastOf : List Cond := .code yX7_leastOf cX7_leastOf 1 (some .int) :: ([])
def wsX7_mostOf : List Cond := .code yX7_mostOf cX7_mostOf 1 (some .int) :: ([])
def wsX7_isComer : List Cond := .code yX7_isComer cX7_isComer 2 (some .boolean) :: ([.fieldLink RX7 77 "FilledForOneModel" "comers" "I"] ++ wsX70)
def wsX7_feed : List Cond := .code yX7_feed cX7_feed 3 (some .int) :: ([.fieldLink RX7 85 "FilledForOneModel" "taped" "I", .fieldLink RX7 55 "FilledForOneModel" "tape" "[I", .methodLink RX7 81 yX7_bound, .static yX7_bound, .initialized RX7, .code yX7_bound cX7_bound 3 (some .int), .methodLink RX7 88 yX7_no, .instanceMethod yX7_no, .selects RX7 yX7_no yX7_no, .code yX7_no cX7_no 2 (some .int), .fieldLink RX7 7 "FilledForOneModel" "refused" "[I"] ++ wsX70)
def wsX7_next : List Cond := .code yX7_next cX7_next 1 (some .int) :: ([.fieldLink RX7 92 "FilledForOneModel" "at" "I", .fieldLink RX7 85 "FilledForOneModel" "taped" "I", .fieldLink RX7 55 "FilledForOneModel" "tape" "[I"] ++ wsX70)
def wsX7_readsNumber : List Cond := .code yX7_readsNumber cX7_readsNumber 6 (some .boolean) :: ([.fieldLink RX7 92 "FilledForOneModel" "at" "I", .fieldLink RX7 64 "FilledForOneModel" "told" "[I", .methodLink RX7 95 yX7_next, .instanceMethod yX7_next, .selects RX7 yX7_next yX7_next, .initialized RX7, .code yX7_next cX7_next 1 (some .int), .fieldLink RX7 85 "FilledForOneModel" "taped" "I", .fieldLink RX7 55 "FilledForOneModel" "tape" "[I", .methodLink RX7 99 yX7_isIn, .static yX7_isIn, .code yX7_isIn cX7_isIn 3 (some .boolean)] ++ wsX70)
def wsX7_readsSetting : List Cond := .code yX7_readsSetting cX7_readsSetting 2 (some .boolean) :: ([.fieldLink RX7 92 "FilledForOneModel" "at" "I", .methodLink RX7 103 yX7_readsNumber, .instanceMethod yX7_readsNumber, .selects RX7 yX7_readsNumber yX7_readsNumber, .initialized RX7, .code yX7_readsNumber cX7_readsNumber 6 (some .boolean), .fieldLink RX7 64 "FilledForOneModel" "told" "[I", .methodLink RX7 95 yX7_next, .instanceMethod yX7_next, .selects RX7 yX7_next yX7_next, .code yX7_next cX7_next 1 (some .int), .fieldLink RX7 85 "FilledForOneModel" "taped" "I", .fieldLink RX7 55 "FilledForOneModel" "tape" "[I", .methodLink RX7 99 yX7_isIn, .static yX7_isIn, .code yX7_isIn cX7_isIn 3 (some .boolean)] ++ wsX70)
def wsX7_readsComer : List Cond := .code yX7_readsComer cX7_readsComer 2 (some .boolean) :: ([.methodLink RX7 103 yX7_readsNumber, .instanceMethod yX7_readsNumber, .selects RX7 yX7_readsNumber yX7_readsNumber, .initialized RX7, .code yX7_readsNumber cX7_readsNumber 6 (some .boolean), .fieldLink RX7 92 "FilledForOneModel" "at" "I", .fieldLink RX7 64 "FilledForOneModel" "told" "[I", .methodLink RX7 95 yX7_next, .instanceMethod yX7_next, .selects RX7 yX7_next yX7_next, .code yX7_next cX7_next 1 (some .int), .fieldLink RX7 85 "FilledForOneModel" "taped" "I", .fieldLink RX7 55 "FilledForOneModel" "tape" "[I", .methodLink RX7 99 yX7_isIn, .static yX7_isIn, .code yX7_isIn cX7_isIn 3 (some .boolean)] ++ wsX70)
def wsX7_statement_r1 : List Cond := [Cond.fieldLink RX7 58 "FilledForOneModel" "letter" "[I", Cond.fieldLink RX7 106 "FilledForOneModel" "statements" "I", Cond.fieldLink RX7 61 "FilledForOneModel" "letterAt" "[I", Cond.fieldLink RX7 92 "FilledForOneModel" "at" "I", Cond.methodLink RX7 95 yX7_next, Cond.instanceMethod yX7_next, Cond.selects RX7 yX7_next yX7_next, Cond.initialized RX7, Cond.code yX7_next cX7_next 1 (some .int), Cond.fieldLink RX7 85 "FilledForOneModel" "taped" "I", Cond.fieldLink RX7 55 "FilledForOneModel" "tape" "[I", Cond.methodLink RX7 109 yX7_readsSetting, Cond.instanceMethod yX7_readsSetting, Cond.selects RX7 yX7_readsSetting yX7_readsSetting, Cond.code yX7_readsSetting cX7_readsSetting 2 (some .boolean), Cond.methodLink RX7 103 yX7_readsNumber, Cond.instanceMethod yX7_readsNumber, Cond.selects RX7 yX7_readsNumber yX7_readsNumber, Cond.code yX7_readsNumber cX7_readsNumber 6 (some .boolean), Cond.fieldLink RX7 64 "FilledForOneModel" "told" "[I", Cond.methodLink RX7 99 yX7_isIn, Cond.static yX7_isIn, Cond.code yX7_isIn cX7_isIn 3 (some .boolean), Cond.methodLink RX7 113 yX7_readsComer]
def wsX7_statement_r2 : List Cond := [Cond.instanceMethod yX7_readsComer, Cond.selects RX7 yX7_readsComer yX7_readsComer, Cond.code yX7_readsComer cX7_readsComer 2 (some .boolean)]
def wsX7_statement : List Cond := .code yX7_statement cX7_statement 4 (some .boolean) :: ((wsX7_statement_r1 ++ wsX7_statement_r2) ++ wsX70)
def wsX7_notSet : List Cond := .code yX7_notSet cX7_notSet 5 (some .int) :: ([.fieldLink RX7 40 "FilledForOneModel" "level" "[I", .fieldLink RX7 13 "FilledForOneModel" "setting" "[I", .fieldLink RX7 122 "FilledForOneModel" "minute" "I", .methodLink RX7 99 yX7_isIn, .static yX7_isIn, .initialized RX7, .code yX7_isIn cX7_isIn 3 (some .boolean), .methodLink RX7 116 yX7_leastOf, .static yX7_leastOf, .code yX7_leastOf cX7_leastOf 1 (some .int), .methodLink RX7 119 yX7_mostOf, .static yX7_mostOf, .code yX7_mostOf cX7_mostOf 1 (some .int), .methodLink RX7 81 yX7_bound, .static yX7_bound, .code yX7_bound cX7_bound 3 (some .int)] ++ wsX70)
def wsX7_comesOne : List Cond := .code yX7_comesOne cX7_comesOne 2 (some .boolean) :: ([.fieldLink RX7 64 "FilledForOneModel" "told" "[I", .fieldLink RX7 122 "FilledForOneModel" "minute" "I", .fieldLink RX7 77 "FilledForOneModel" "comers" "I", .fieldLink RX7 16 "FilledForOneModel" "kind" "[I", .fieldLink RX7 19 "FilledForOneModel" "figure" "[I", .fieldLink RX7 22 "FilledForOneModel" "comes" "[I", .fieldLink RX7 25 "FilledForOneModel" "wants" "[I", .fieldLink RX7 28 "FilledForOneModel" "patience" "[I", .fieldLink RX7 31 "FilledForOneModel" "state" "[I", .fieldLink RX7 34 "FilledForOneModel" "waited" "[I", .methodLink RX7 99 yX7_isIn, .static yX7_isIn, .initialized RX7, .code yX7_isIn cX7_isIn 3 (some .boolean)] ++ wsX70)
def wsX7_comesAs_r1 : List Cond := [Cond.fieldLink RX7 58 "FilledForOneModel" "letter" "[I", Cond.fieldLink RX7 64 "FilledForOneModel" "told" "[I", Cond.fieldLink RX7 13 "FilledForOneModel" "setting" "[I", Cond.fieldLink RX7 16 "FilledForOneModel" "kind" "[I", Cond.fieldLink RX7 19 "FilledForOneModel" "figure" "[I", Cond.methodLink RX7 125 yX7_notSet, Cond.instanceMethod yX7_notSet, Cond.selects RX7 yX7_notSet yX7_notSet, Cond.initialized RX7, Cond.code yX7_notSet cX7_notSet 5 (some .int), Cond.fieldLink RX7 40 "FilledForOneModel" "level" "[I", Cond.fieldLink RX7 122 "FilledForOneModel" "minute" "I", Cond.methodLink RX7 99 yX7_isIn, Cond.static yX7_isIn, Cond.code yX7_isIn cX7_isIn 3 (some .boolean), Cond.methodLink RX7 116 yX7_leastOf, Cond.static yX7_leastOf, Cond.code yX7_leastOf cX7_leastOf 1 (some .int), Cond.methodLink RX7 119 yX7_mostOf, Cond.static yX7_mostOf, Cond.code yX7_mostOf cX7_mostOf 1 (some .int), Cond.methodLink RX7 81 yX7_bound, Cond.static yX7_bound, Cond.code yX7_bound cX7_bound 3 (some .int)]
def wsX7_comesAs_r2 : List Cond := [Cond.methodLink RX7 129 yX7_comesOne, Cond.instanceMethod yX7_comesOne, Cond.selects RX7 yX7_comesOne yX7_comesOne, Cond.code yX7_comesOne cX7_comesOne 2 (some .boolean), Cond.fieldLink RX7 77 "FilledForOneModel" "comers" "I", Cond.fieldLink RX7 22 "FilledForOneModel" "comes" "[I", Cond.fieldLink RX7 25 "FilledForOneModel" "wants" "[I", Cond.fieldLink RX7 28 "FilledForOneModel" "patience" "[I", Cond.fieldLink RX7 31 "FilledForOneModel" "state" "[I", Cond.fieldLink RX7 34 "FilledForOneModel" "waited" "[I", Cond.methodLink RX7 132 yX7_isComer, Cond.instanceMethod yX7_isComer, Cond.selects RX7 yX7_isComer yX7_isComer, Cond.code yX7_isComer cX7_isComer 2 (some .boolean)]
def wsX7_comesAs : List Cond := .code yX7_comesAs cX7_comesAs 3 (some .boolean) :: ((wsX7_comesAs_r1 ++ wsX7_comesAs_r2) ++ wsX70)
def wsX7_passes : List Cond := .code yX7_passes cX7_passes 3 none :: ([.fieldLink RX7 146 "FilledForOneModel" "isKeeping" "Z", .fieldLink RX7 67 "FilledForOneModel" "kept" "[I", .fieldLink RX7 150 "FilledForOneModel" "cursor" "I"] ++ wsX70)
def wsX7_passOne : List Cond := .code yX7_passOne cX7_passOne 3 (some .int) :: ([.fieldLink RX7 146 "FilledForOneModel" "isKeeping" "Z", .fieldLink RX7 67 "FilledForOneModel" "kept" "[I", .fieldLink RX7 150 "FilledForOneModel" "cursor" "I"] ++ wsX70)
def wsX7_passesAll_r1 : List Cond := [Cond.fieldLink RX7 150 "FilledForOneModel" "cursor" "I", Cond.fieldLink RX7 146 "FilledForOneModel" "isKeeping" "Z", Cond.fieldLink RX7 13 "FilledForOneModel" "setting" "[I", Cond.fieldLink RX7 16 "FilledForOneModel" "kind" "[I", Cond.fieldLink RX7 19 "FilledForOneModel" "figure" "[I", Cond.fieldLink RX7 22 "FilledForOneModel" "comes" "[I", Cond.fieldLink RX7 25 "FilledForOneModel" "wants" "[I", Cond.fieldLink RX7 28 "FilledForOneModel" "patience" "[I", Cond.fieldLink RX7 31 "FilledForOneModel" "state" "[I", Cond.fieldLink RX7 34 "FilledForOneModel" "waited" "[I", Cond.fieldLink RX7 37 "FilledForOneModel" "line" "[I", Cond.fieldLink RX7 40 "FilledForOneModel" "level" "[I", Cond.fieldLink RX7 43 "FilledForOneModel" "warmth" "[I", Cond.fieldLink RX7 46 "FilledForOneModel" "age" "[I", Cond.fieldLink RX7 49 "FilledForOneModel" "busyTill" "[I", Cond.fieldLink RX7 52 "FilledForOneModel" "putBy" "[I", Cond.fieldLink RX7 77 "FilledForOneModel" "comers" "I", Cond.fieldLink RX7 122 "FilledForOneModel" "minute" "I", Cond.fieldLink RX7 160 "FilledForOneModel" "lineMany" "I", Cond.methodLink RX7 153 yX7_passes, Cond.instanceMethod yX7_passes, Cond.selects RX7 yX7_passes yX7_passes, Cond.initialized RX7, Cond.code yX7_passes cX7_passes 3 none]
def wsX7_passesAll_r2 : List Cond := [Cond.fieldLink RX7 67 "FilledForOneModel" "kept" "[I", Cond.methodLink RX7 157 yX7_passOne, Cond.instanceMethod yX7_passOne, Cond.selects RX7 yX7_passOne yX7_passOne, Cond.code yX7_passOne cX7_passOne 3 (some .int)]
def wsX7_passesAll : List Cond := .code yX7_passesAll cX7_passesAll 3 none :: ((wsX7_passesAll_r1 ++ wsX7_passesAll_r2) ++ wsX70)
def wsX7_office_r1 : List Cond := [Cond.fieldLink RX7 92 "FilledForOneModel" "at" "I", Cond.fieldLink RX7 106 "FilledForOneModel" "statements" "I", Cond.fieldLink RX7 85 "FilledForOneModel" "taped" "I", Cond.fieldLink RX7 61 "FilledForOneModel" "letterAt" "[I", Cond.methodLink RX7 135 yX7_statement, Cond.instanceMethod yX7_statement, Cond.selects RX7 yX7_statement yX7_statement, Cond.initialized RX7, Cond.code yX7_statement cX7_statement 4 (some .boolean), Cond.fieldLink RX7 58 "FilledForOneModel" "letter" "[I", Cond.methodLink RX7 95 yX7_next, Cond.instanceMethod yX7_next, Cond.selects RX7 yX7_next yX7_next, Cond.code yX7_next cX7_next 1 (some .int), Cond.fieldLink RX7 55 "FilledForOneModel" "tape" "[I", Cond.methodLink RX7 109 yX7_readsSetting, Cond.instanceMethod yX7_readsSetting, Cond.selects RX7 yX7_readsSetting yX7_readsSetting, Cond.code yX7_readsSetting cX7_readsSetting 2 (some .boolean), Cond.methodLink RX7 103 yX7_readsNumber, Cond.instanceMethod yX7_readsNumber, Cond.selects RX7 yX7_readsNumber yX7_readsNumber, Cond.code yX7_readsNumber cX7_readsNumber 6 (some .boolean), Cond.fieldLink RX7 64 "FilledForOneModel" "told" "[I"]
def wsX7_office_r2 : List Cond := [Cond.methodLink RX7 99 yX7_isIn, Cond.static yX7_isIn, Cond.code yX7_isIn cX7_isIn 3 (some .boolean), Cond.methodLink RX7 113 yX7_readsComer, Cond.instanceMethod yX7_readsComer, Cond.selects RX7 yX7_readsComer yX7_readsComer, Cond.code yX7_readsComer cX7_readsComer 2 (some .boolean), Cond.methodLink RX7 139 yX7_passesAll, Cond.instanceMethod yX7_passesAll, Cond.selects RX7 yX7_passesAll yX7_passesAll, Cond.code yX7_passesAll cX7_passesAll 3 none, Cond.fieldLink RX7 150 "FilledForOneModel" "cursor" "I", Cond.fieldLink RX7 146 "FilledForOneModel" "isKeeping" "Z", Cond.fieldLink RX7 13 "FilledForOneModel" "setting" "[I", Cond.fieldLink RX7 16 "FilledForOneModel" "kind" "[I", Cond.fieldLink RX7 19 "FilledForOneModel" "figure" "[I", Cond.fieldLink RX7 22 "FilledForOneModel" "comes" "[I", Cond.fieldLink RX7 25 "FilledForOneModel" "wants" "[I", Cond.fieldLink RX7 28 "FilledForOneModel" "patience" "[I", Cond.fieldLink RX7 31 "FilledForOneModel" "state" "[I", Cond.fieldLink RX7 34 "FilledForOneModel" "waited" "[I", Cond.fieldLink RX7 37 "FilledForOneModel" "line" "[I", Cond.fieldLink RX7 40 "FilledForOneModel" "level" "[I", Cond.fieldLink RX7 43 "FilledForOneModel" "warmth" "[I"]
def wsX7_office_r3 : List Cond := [Cond.fieldLink RX7 46 "FilledForOneModel" "age" "[I", Cond.fieldLink RX7 49 "FilledForOneModel" "busyTill" "[I", Cond.fieldLink RX7 52 "FilledForOneModel" "putBy" "[I", Cond.fieldLink RX7 77 "FilledForOneModel" "comers" "I", Cond.fieldLink RX7 122 "FilledForOneModel" "minute" "I", Cond.fieldLink RX7 160 "FilledForOneModel" "lineMany" "I", Cond.methodLink RX7 153 yX7_passes, Cond.instanceMethod yX7_passes, Cond.selects RX7 yX7_passes yX7_passes, Cond.code yX7_passes cX7_passes 3 none, Cond.fieldLink RX7 67 "FilledForOneModel" "kept" "[I", Cond.methodLink RX7 157 yX7_passOne, Cond.instanceMethod yX7_passOne, Cond.selects RX7 yX7_passOne yX7_passOne, Cond.code yX7_passOne cX7_passOne 3 (some .int), Cond.methodLink RX7 143 yX7_comesAs, Cond.instanceMethod yX7_comesAs, Cond.selects RX7 yX7_comesAs yX7_comesAs, Cond.code yX7_comesAs cX7_comesAs 3 (some .boolean), Cond.methodLink RX7 125 yX7_notSet, Cond.instanceMethod yX7_notSet, Cond.selects RX7 yX7_notSet yX7_notSet, Cond.code yX7_notSet cX7_notSet 5 (some .int), Cond.methodLink RX7 116 yX7_leastOf]
def wsX7_office_r4 : List Cond := [Cond.static yX7_leastOf, Cond.code yX7_leastOf cX7_leastOf 1 (some .int), Cond.methodLink RX7 119 yX7_mostOf, Cond.static yX7_mostOf, Cond.code yX7_mostOf cX7_mostOf 1 (some .int), Cond.methodLink RX7 81 yX7_bound, Cond.static yX7_bound, Cond.code yX7_bound cX7_bound 3 (some .int), Cond.methodLink RX7 129 yX7_comesOne, Cond.instanceMethod yX7_comesOne, Cond.selects RX7 yX7_comesOne yX7_comesOne, Cond.code yX7_comesOne cX7_comesOne 2 (some .boolean), Cond.methodLink RX7 132 yX7_isComer, Cond.instanceMethod yX7_isComer, Cond.selects RX7 yX7_isComer yX7_isComer, Cond.code yX7_isComer cX7_isComer 2 (some .boolean)]
def wsX7_office : List Cond := .code yX7_office cX7_office 3 (some .int) :: ((wsX7_office_r1 ++ (wsX7_office_r2 ++ (wsX7_office_r3 ++ wsX7_office_r4))) ++ wsX70)
def wsX7_image_r1 : List Cond := [Cond.fieldLink RX7 163 "FilledForOneModel" "hasImage" "Z", Cond.fieldLink RX7 122 "FilledForOneModel" "minute" "I", Cond.methodLink RX7 139 yX7_passesAll, Cond.instanceMethod yX7_passesAll, Cond.selects RX7 yX7_passesAll yX7_passesAll, Cond.initialized RX7, Cond.code yX7_passesAll cX7_passesAll 3 none, Cond.fieldLink RX7 150 "FilledForOneModel" "cursor" "I", Cond.fieldLink RX7 146 "FilledForOneModel" "isKeeping" "Z", Cond.fieldLink RX7 13 "FilledForOneModel" "setting" "[I", Cond.fieldLink RX7 16 "FilledForOneModel" "kind" "[I", Cond.fieldLink RX7 19 "FilledForOneModel" "figure" "[I", Cond.fieldLink RX7 22 "FilledForOneModel" "comes" "[I", Cond.fieldLink RX7 25 "FilledForOneModel" "wants" "[I", Cond.fieldLink RX7 28 "FilledForOneModel" "patience" "[I", Cond.fieldLink RX7 31 "FilledForOneModel" "state" "[I", Cond.fieldLink RX7 34 "FilledForOneModel" "waited" "[I", Cond.fieldLink RX7 37 "FilledForOneModel" "line" "[I", Cond.fieldLink RX7 40 "FilledForOneModel" "level" "[I", Cond.fieldLink RX7 43 "FilledForOneModel" "warmth" "[I", Cond.fieldLink RX7 46 "FilledForOneModel" "age" "[I", Cond.fieldLink RX7 49 "FilledForOneModel" "busyTill" "[I", Cond.fieldLink RX7 52 "FilledForOneModel" "putBy" "[I", Cond.fieldLink RX7 77 "FilledForOneModel" "comers" "I"]
def wsX7_image_r2 : List Cond := [Cond.fieldLink RX7 160 "FilledForOneModel" "lineMany" "I", Cond.methodLink RX7 153 yX7_passes, Cond.instanceMethod yX7_passes, Cond.selects RX7 yX7_passes yX7_passes, Cond.code yX7_passes cX7_passes 3 none, Cond.fieldLink RX7 67 "FilledForOneModel" "kept" "[I", Cond.methodLink RX7 157 yX7_passOne, Cond.instanceMethod yX7_passOne, Cond.selects RX7 yX7_passOne yX7_passOne, Cond.code yX7_passOne cX7_passOne 3 (some .int)]
def wsX7_image : List Cond := .code yX7_image cX7_image 1 (some .int) :: ((wsX7_image_r1 ++ wsX7_image_r2) ++ wsX70)
def wsX7_restore_r1 : List Cond := [Cond.fieldLink RX7 163 "FilledForOneModel" "hasImage" "Z", Cond.fieldLink RX7 122 "FilledForOneModel" "minute" "I", Cond.methodLink RX7 88 yX7_no, Cond.instanceMethod yX7_no, Cond.selects RX7 yX7_no yX7_no, Cond.initialized RX7, Cond.code yX7_no cX7_no 2 (some .int), Cond.fieldLink RX7 7 "FilledForOneModel" "refused" "[I", Cond.methodLink RX7 139 yX7_passesAll, Cond.instanceMethod yX7_passesAll, Cond.selects RX7 yX7_passesAll yX7_passesAll, Cond.code yX7_passesAll cX7_passesAll 3 none, Cond.fieldLink RX7 150 "FilledForOneModel" "cursor" "I", Cond.fieldLink RX7 146 "FilledForOneModel" "isKeeping" "Z", Cond.fieldLink RX7 13 "FilledForOneModel" "setting" "[I", Cond.fieldLink RX7 16 "FilledForOneModel" "kind" "[I", Cond.fieldLink RX7 19 "FilledForOneModel" "figure" "[I", Cond.fieldLink RX7 22 "FilledForOneModel" "comes" "[I", Cond.fieldLink RX7 25 "FilledForOneModel" "wants" "[I", Cond.fieldLink RX7 28 "FilledForOneModel" "patience" "[I", Cond.fieldLink RX7 31 "FilledForOneModel" "state" "[I", Cond.fieldLink RX7 34 "FilledForOneModel" "waited" "[I", Cond.fieldLink RX7 37 "FilledForOneModel" "line" "[I", Cond.fieldLink RX7 40 "FilledForOneModel" "level" "[I"]
def wsX7_restore_r2 : List Cond := [Cond.fieldLink RX7 43 "FilledForOneModel" "warmth" "[I", Cond.fieldLink RX7 46 "FilledForOneModel" "age" "[I", Cond.fieldLink RX7 49 "FilledForOneModel" "busyTill" "[I", Cond.fieldLink RX7 52 "FilledForOneModel" "putBy" "[I", Cond.fieldLink RX7 77 "FilledForOneModel" "comers" "I", Cond.fieldLink RX7 160 "FilledForOneModel" "lineMany" "I", Cond.methodLink RX7 153 yX7_passes, Cond.instanceMethod yX7_passes, Cond.selects RX7 yX7_passes yX7_passes, Cond.code yX7_passes cX7_passes 3 none, Cond.fieldLink RX7 67 "FilledForOneModel" "kept" "[I", Cond.methodLink RX7 157 yX7_passOne, Cond.instanceMethod yX7_passOne, Cond.selects RX7 yX7_passOne yX7_passOne, Cond.code yX7_passOne cX7_passOne 3 (some .int)]
def wsX7_restore : List Cond := .code yX7_restore cX7_restore 1 (some .int) :: ((wsX7_restore_r1 ++ wsX7_restore_r2) ++ wsX70)
def wsX7_wantsInLine : List Cond := .code yX7_wantsInLine cX7_wantsInLine 3 (some .int) :: ([.fieldLink RX7 160 "FilledForOneModel" "lineMany" "I", .fieldLink RX7 25 "FilledForOneModel" "wants" "[I", .fieldLink RX7 37 "FilledForOneModel" "line" "[I"] ++ wsX70)
def wsX7_wantsSoon : List Cond := .code yX7_wantsSoon cX7_wantsSoon 4 (some .int) :: ([.fieldLink RX7 77 "FilledForOneModel" "comers" "I", .fieldLink RX7 31 "FilledForOneModel" "state" "[I", .fieldLink RX7 22 "FilledForOneModel" "comes" "[I", .fieldLink RX7 122 "FilledForOneModel" "minute" "I", .fieldLink RX7 25 "FilledForOneModel" "wants" "[I"] ++ wsX70)
def wsX7_cupsBy : List Cond := .code yX7_cupsBy cX7_cupsBy 3 (some .int) :: ([.fieldLink RX7 25 "FilledForOneModel" "wants" "[I", .fieldLink RX7 13 "FilledForOneModel" "setting" "[I", .fieldLink RX7 19 "FilledForOneModel" "figure" "[I", .methodLink RX7 166 yX7_wantsInLine, .instanceMethod yX7_wantsInLine, .selects RX7 yX7_wantsInLine yX7_wantsInLine, .initialized RX7, .code yX7_wantsInLine cX7_wantsInLine 3 (some .int), .fieldLink RX7 160 "FilledForOneModel" "lineMany" "I", .fieldLink RX7 37 "FilledForOneModel" "line" "[I", .methodLink RX7 169 yX7_wantsSoon, .instanceMethod yX7_wantsSoon, .selects RX7 yX7_wantsSoon yX7_wantsSoon, .code yX7_wantsSoon cX7_wantsSoon 4 (some .int), .fieldLink RX7 77 "FilledForOneModel" "comers" "I", .fieldLink RX7 31 "FilledForOneModel" "state" "[I", .fieldLink RX7 22 "FilledForOneModel" "comes" "[I", .fieldLink RX7 122 "FilledForOneModel" "minute" "I"] ++ wsX70)
def wsX7_upTo : List Cond := .code yX7_upTo cX7_upTo 4 (some .int) :: ([.fieldLink RX7 25 "FilledForOneModel" "wants" "[I", .fieldLink RX7 13 "FilledForOneModel" "setting" "[I", .methodLink RX7 172 yX7_cupsBy, .instanceMethod yX7_cupsBy, .selects RX7 yX7_cupsBy yX7_cupsBy, .initialized RX7, .code yX7_cupsBy cX7_cupsBy 3 (some .int), .fieldLink RX7 19 "FilledForOneModel" "figure" "[I", .methodLink RX7 166 yX7_wantsInLine, .instanceMethod yX7_wantsInLine, .selects RX7 yX7_wantsInLine yX7_wantsInLine, .code yX7_wantsInLine cX7_wantsInLine 3 (some .int), .fieldLink RX7 160 "FilledForOneModel" "lineMany" "I", .fieldLink RX7 37 "FilledForOneModel" "line" "[I", .methodLink RX7 169 yX7_wantsSoon, .instanceMethod yX7_wantsSoon, .selects RX7 yX7_wantsSoon yX7_wantsSoon, .code yX7_wantsSoon cX7_wantsSoon 4 (some .int), .fieldLink RX7 77 "FilledForOneModel" "comers" "I", .fieldLink RX7 31 "FilledForOneModel" "state" "[I", .fieldLink RX7 22 "FilledForOneModel" "comes" "[I", .fieldLink RX7 122 "FilledForOneModel" "minute" "I"] ++ wsX70)
def wsX7_isFree : List Cond := .code yX7_isFree cX7_isFree 2 (some .boolean) :: ([.fieldLink RX7 49 "FilledForOneModel" "busyTill" "[I", .fieldLink RX7 122 "FilledForOneModel" "minute" "I"] ++ wsX70)
def wsX7_boilTime : List Cond := .code yX7_boilTime cX7_boilTime 4 (some .int) :: ([.fieldLink RX7 13 "FilledForOneModel" "setting" "[I"] ++ wsX70)
def wsX7_putsOn_r1 : List Cond := [Cond.fieldLink RX7 16 "FilledForOneModel" "kind" "[I", Cond.fieldLink RX7 40 "FilledForOneModel" "level" "[I", Cond.fieldLink RX7 43 "FilledForOneModel" "warmth" "[I", Cond.fieldLink RX7 13 "FilledForOneModel" "setting" "[I", Cond.fieldLink RX7 49 "FilledForOneModel" "busyTill" "[I", Cond.fieldLink RX7 122 "FilledForOneModel" "minute" "I", Cond.fieldLink RX7 46 "FilledForOneModel" "age" "[I", Cond.fieldLink RX7 52 "FilledForOneModel" "putBy" "[I", Cond.fieldLink RX7 181 "FilledForOneModel" "putOn" "I", Cond.methodLink RX7 175 yX7_upTo, Cond.instanceMethod yX7_upTo, Cond.selects RX7 yX7_upTo yX7_upTo, Cond.initialized RX7, Cond.code yX7_upTo cX7_upTo 4 (some .int), Cond.fieldLink RX7 25 "FilledForOneModel" "wants" "[I", Cond.methodLink RX7 172 yX7_cupsBy, Cond.instanceMethod yX7_cupsBy, Cond.selects RX7 yX7_cupsBy yX7_cupsBy, Cond.code yX7_cupsBy cX7_cupsBy 3 (some .int), Cond.fieldLink RX7 19 "FilledForOneModel" "figure" "[I", Cond.methodLink RX7 166 yX7_wantsInLine, Cond.instanceMethod yX7_wantsInLine, Cond.selects RX7 yX7_wantsInLine yX7_wantsInLine, Cond.code yX7_wantsInLine cX7_wantsInLine 3 (some .int)]
def wsX7_putsOn_r2 : List Cond := [Cond.fieldLink RX7 160 "FilledForOneModel" "lineMany" "I", Cond.fieldLink RX7 37 "FilledForOneModel" "line" "[I", Cond.methodLink RX7 169 yX7_wantsSoon, Cond.instanceMethod yX7_wantsSoon, Cond.selects RX7 yX7_wantsSoon yX7_wantsSoon, Cond.code yX7_wantsSoon cX7_wantsSoon 4 (some .int), Cond.fieldLink RX7 77 "FilledForOneModel" "comers" "I", Cond.fieldLink RX7 31 "FilledForOneModel" "state" "[I", Cond.fieldLink RX7 22 "FilledForOneModel" "comes" "[I", Cond.methodLink RX7 178 yX7_boilTime, Cond.instanceMethod yX7_boilTime, Cond.selects RX7 yX7_boilTime yX7_boilTime, Cond.code yX7_boilTime cX7_boilTime 4 (some .int)]
def wsX7_putsOn : List Cond := .code yX7_putsOn cX7_putsOn 5 none :: ((wsX7_putsOn_r1 ++ wsX7_putsOn_r2) ++ wsX70)
def wsX7_hotFor : List Cond := .code yX7_hotFor cX7_hotFor 3 (some .int) :: ([.fieldLink RX7 13 "FilledForOneModel" "setting" "[I", .fieldLink RX7 43 "FilledForOneModel" "warmth" "[I", .fieldLink RX7 40 "FilledForOneModel" "level" "[I", .fieldLink RX7 25 "FilledForOneModel" "wants" "[I", .methodLink RX7 184 yX7_isFree, .instanceMethod yX7_isFree, .selects RX7 yX7_isFree yX7_isFree, .initialized RX7, .code yX7_isFree cX7_isFree 2 (some .boolean), .fieldLink RX7 49 "FilledForOneModel" "busyTill" "[I", .fieldLink RX7 122 "FilledForOneModel" "minute" "I"] ++ wsX70)
def wsX7_freeFor : List Cond := .code yX7_freeFor cX7_freeFor 4 (some .int) :: ([.fieldLink RX7 13 "FilledForOneModel" "setting" "[I", .fieldLink RX7 52 "FilledForOneModel" "putBy" "[I", .methodLink RX7 184 yX7_isFree, .instanceMethod yX7_isFree, .selects RX7 yX7_isFree yX7_isFree, .initialized RX7, .code yX7_isFree cX7_isFree 2 (some .boolean), .fieldLink RX7 49 "FilledForOneModel" "busyTill" "[I", .fieldLink RX7 122 "FilledForOneModel" "minute" "I"] ++ wsX70)
def wsX7_isServed_r1 : List Cond := [Cond.fieldLink RX7 40 "FilledForOneModel" "level" "[I", Cond.fieldLink RX7 25 "FilledForOneModel" "wants" "[I", Cond.fieldLink RX7 31 "FilledForOneModel" "state" "[I", Cond.fieldLink RX7 34 "FilledForOneModel" "waited" "[I", Cond.fieldLink RX7 122 "FilledForOneModel" "minute" "I", Cond.fieldLink RX7 22 "FilledForOneModel" "comes" "[I", Cond.methodLink RX7 187 yX7_hotFor, Cond.instanceMethod yX7_hotFor, Cond.selects RX7 yX7_hotFor yX7_hotFor, Cond.initialized RX7, Cond.code yX7_hotFor cX7_hotFor 3 (some .int), Cond.fieldLink RX7 13 "FilledForOneModel" "setting" "[I", Cond.fieldLink RX7 43 "FilledForOneModel" "warmth" "[I", Cond.methodLink RX7 184 yX7_isFree, Cond.instanceMethod yX7_isFree, Cond.selects RX7 yX7_isFree yX7_isFree, Cond.code yX7_isFree cX7_isFree 2 (some .boolean), Cond.fieldLink RX7 49 "FilledForOneModel" "busyTill" "[I", Cond.methodLink RX7 190 yX7_freeFor, Cond.instanceMethod yX7_freeFor, Cond.selects RX7 yX7_freeFor yX7_freeFor, Cond.code yX7_freeFor cX7_freeFor 4 (some .int), Cond.fieldLink RX7 52 "FilledForOneModel" "putBy" "[I", Cond.methodLink RX7 193 yX7_putsOn]
def wsX7_isServed_r2 : List Cond := [Cond.instanceMethod yX7_putsOn, Cond.selects RX7 yX7_putsOn yX7_putsOn, Cond.code yX7_putsOn cX7_putsOn 5 none, Cond.fieldLink RX7 16 "FilledForOneModel" "kind" "[I", Cond.fieldLink RX7 46 "FilledForOneModel" "age" "[I", Cond.fieldLink RX7 181 "FilledForOneModel" "putOn" "I", Cond.methodLink RX7 175 yX7_upTo, Cond.instanceMethod yX7_upTo, Cond.selects RX7 yX7_upTo yX7_upTo, Cond.code yX7_upTo cX7_upTo 4 (some .int), Cond.methodLink RX7 172 yX7_cupsBy, Cond.instanceMethod yX7_cupsBy, Cond.selects RX7 yX7_cupsBy yX7_cupsBy, Cond.code yX7_cupsBy cX7_cupsBy 3 (some .int), Cond.fieldLink RX7 19 "FilledForOneModel" "figure" "[I", Cond.methodLink RX7 166 yX7_wantsInLine, Cond.instanceMethod yX7_wantsInLine, Cond.selects RX7 yX7_wantsInLine yX7_wantsInLine, Cond.code yX7_wantsInLine cX7_wantsInLine 3 (some .int), Cond.fieldLink RX7 160 "FilledForOneModel" "lineMany" "I", Cond.fieldLink RX7 37 "FilledForOneModel" "line" "[I", Cond.methodLink RX7 169 yX7_wantsSoon, Cond.instanceMethod yX7_wantsSoon, Cond.selects RX7 yX7_wantsSoon yX7_wantsSoon]
def wsX7_isServed_r3 : List Cond := [Cond.code yX7_wantsSoon cX7_wantsSoon 4 (some .int), Cond.fieldLink RX7 77 "FilledForOneModel" "comers" "I", Cond.methodLink RX7 178 yX7_boilTime, Cond.instanceMethod yX7_boilTime, Cond.selects RX7 yX7_boilTime yX7_boilTime, Cond.code yX7_boilTime cX7_boilTime 4 (some .int)]
def wsX7_isServed : List Cond := .code yX7_isServed cX7_isServed 3 (some .boolean) :: ((wsX7_isServed_r1 ++ (wsX7_isServed_r2 ++ wsX7_isServed_r3)) ++ wsX70)
def wsX7_leaves : List Cond := .code yX7_leaves cX7_leaves 3 none :: ([.fieldLink RX7 160 "FilledForOneModel" "lineMany" "I", .fieldLink RX7 37 "FilledForOneModel" "line" "[I"] ++ wsX70)
def wsX7_cools : List Cond := .code yX7_cools cX7_cools 2 none :: ([.fieldLink RX7 13 "FilledForOneModel" "setting" "[I", .fieldLink RX7 40 "FilledForOneModel" "level" "[I", .fieldLink RX7 46 "FilledForOneModel" "age" "[I", .fieldLink RX7 43 "FilledForOneModel" "warmth" "[I", .methodLink RX7 184 yX7_isFree, .instanceMethod yX7_isFree, .selects RX7 yX7_isFree yX7_isFree, .initialized RX7, .code yX7_isFree cX7_isFree 2 (some .boolean), .fieldLink RX7 49 "FilledForOneModel" "busyTill" "[I", .fieldLink RX7 122 "FilledForOneModel" "minute" "I"] ++ wsX70)
def wsX7_goesMinute_r1 : List Cond := [Cond.fieldLink RX7 77 "FilledForOneModel" "comers" "I", Cond.fieldLink RX7 31 "FilledForOneModel" "state" "[I", Cond.fieldLink RX7 22 "FilledForOneModel" "comes" "[I", Cond.fieldLink RX7 122 "FilledForOneModel" "minute" "I", Cond.fieldLink RX7 37 "FilledForOneModel" "line" "[I", Cond.fieldLink RX7 160 "FilledForOneModel" "lineMany" "I", Cond.fieldLink RX7 28 "FilledForOneModel" "patience" "[I", Cond.fieldLink RX7 34 "FilledForOneModel" "waited" "[I", Cond.methodLink RX7 197 yX7_leaves, Cond.instanceMethod yX7_leaves, Cond.selects RX7 yX7_leaves yX7_leaves, Cond.initialized RX7, Cond.code yX7_leaves cX7_leaves 3 none, Cond.methodLink RX7 201 yX7_isServed, Cond.instanceMethod yX7_isServed, Cond.selects RX7 yX7_isServed yX7_isServed, Cond.code yX7_isServed cX7_isServed 3 (some .boolean), Cond.fieldLink RX7 40 "FilledForOneModel" "level" "[I", Cond.fieldLink RX7 25 "FilledForOneModel" "wants" "[I", Cond.methodLink RX7 187 yX7_hotFor, Cond.instanceMethod yX7_hotFor, Cond.selects RX7 yX7_hotFor yX7_hotFor, Cond.code yX7_hotFor cX7_hotFor 3 (some .int), Cond.fieldLink RX7 13 "FilledForOneModel" "setting" "[I"]
def wsX7_goesMinute_r2 : List Cond := [Cond.fieldLink RX7 43 "FilledForOneModel" "warmth" "[I", Cond.methodLink RX7 184 yX7_isFree, Cond.instanceMethod yX7_isFree, Cond.selects RX7 yX7_isFree yX7_isFree, Cond.code yX7_isFree cX7_isFree 2 (some .boolean), Cond.fieldLink RX7 49 "FilledForOneModel" "busyTill" "[I", Cond.methodLink RX7 190 yX7_freeFor, Cond.instanceMethod yX7_freeFor, Cond.selects RX7 yX7_freeFor yX7_freeFor, Cond.code yX7_freeFor cX7_freeFor 4 (some .int), Cond.fieldLink RX7 52 "FilledForOneModel" "putBy" "[I", Cond.methodLink RX7 193 yX7_putsOn, Cond.instanceMethod yX7_putsOn, Cond.selects RX7 yX7_putsOn yX7_putsOn, Cond.code yX7_putsOn cX7_putsOn 5 none, Cond.fieldLink RX7 16 "FilledForOneModel" "kind" "[I", Cond.fieldLink RX7 46 "FilledForOneModel" "age" "[I", Cond.fieldLink RX7 181 "FilledForOneModel" "putOn" "I", Cond.methodLink RX7 175 yX7_upTo, Cond.instanceMethod yX7_upTo, Cond.selects RX7 yX7_upTo yX7_upTo, Cond.code yX7_upTo cX7_upTo 4 (some .int), Cond.methodLink RX7 172 yX7_cupsBy, Cond.instanceMethod yX7_cupsBy]
def wsX7_goesMinute_r3 : List Cond := [Cond.selects RX7 yX7_cupsBy yX7_cupsBy, Cond.code yX7_cupsBy cX7_cupsBy 3 (some .int), Cond.fieldLink RX7 19 "FilledForOneModel" "figure" "[I", Cond.methodLink RX7 166 yX7_wantsInLine, Cond.instanceMethod yX7_wantsInLine, Cond.selects RX7 yX7_wantsInLine yX7_wantsInLine, Cond.code yX7_wantsInLine cX7_wantsInLine 3 (some .int), Cond.methodLink RX7 169 yX7_wantsSoon, Cond.instanceMethod yX7_wantsSoon, Cond.selects RX7 yX7_wantsSoon yX7_wantsSoon, Cond.code yX7_wantsSoon cX7_wantsSoon 4 (some .int), Cond.methodLink RX7 178 yX7_boilTime, Cond.instanceMethod yX7_boilTime, Cond.selects RX7 yX7_boilTime yX7_boilTime, Cond.code yX7_boilTime cX7_boilTime 4 (some .int), Cond.methodLink RX7 204 yX7_cools, Cond.instanceMethod yX7_cools, Cond.selects RX7 yX7_cools yX7_cools, Cond.code yX7_cools cX7_cools 2 none]
def wsX7_goesMinute : List Cond := .code yX7_goesMinute cX7_goesMinute 3 none :: ((wsX7_goesMinute_r1 ++ (wsX7_goesMinute_r2 ++ wsX7_goesMinute_r3)) ++ wsX70)
def wsX7_isOver : List Cond := .code yX7_isOver cX7_isOver 2 (some .boolean) :: ([.fieldLink RX7 122 "FilledForOneModel" "minute" "I", .fieldLink RX7 77 "FilledForOneModel" "comers" "I", .fieldLink RX7 31 "FilledForOneModel" "state" "[I", .methodLink RX7 184 yX7_isFree, .instanceMethod yX7_isFree, .selects RX7 yX7_isFree yX7_isFree, .initialized RX7, .code yX7_isFree cX7_isFree 2 (some .boolean), .fieldLink RX7 49 "FilledForOneModel" "busyTill" "[I"] ++ wsX70)
def wsX7_goesToEnd_r1 : List Cond := [Cond.fieldLink RX7 181 "FilledForOneModel" "putOn" "I", Cond.methodLink RX7 207 yX7_isOver, Cond.instanceMethod yX7_isOver, Cond.selects RX7 yX7_isOver yX7_isOver, Cond.initialized RX7, Cond.code yX7_isOver cX7_isOver 2 (some .boolean), Cond.fieldLink RX7 122 "FilledForOneModel" "minute" "I", Cond.fieldLink RX7 77 "FilledForOneModel" "comers" "I", Cond.fieldLink RX7 31 "FilledForOneModel" "state" "[I", Cond.methodLink RX7 184 yX7_isFree, Cond.instanceMethod yX7_isFree, Cond.selects RX7 yX7_isFree yX7_isFree, Cond.code yX7_isFree cX7_isFree 2 (some .boolean), Cond.fieldLink RX7 49 "FilledForOneModel" "busyTill" "[I", Cond.methodLink RX7 210 yX7_goesMinute, Cond.instanceMethod yX7_goesMinute, Cond.selects RX7 yX7_goesMinute yX7_goesMinute, Cond.code yX7_goesMinute cX7_goesMinute 3 none, Cond.fieldLink RX7 22 "FilledForOneModel" "comes" "[I", Cond.fieldLink RX7 37 "FilledForOneModel" "line" "[I", Cond.fieldLink RX7 160 "FilledForOneModel" "lineMany" "I", Cond.fieldLink RX7 28 "FilledForOneModel" "patience" "[I", Cond.fieldLink RX7 34 "FilledForOneModel" "waited" "[I", Cond.methodLink RX7 197 yX7_leaves]
def wsX7_goesToEnd_r2 : List Cond := [Cond.instanceMethod yX7_leaves, Cond.selects RX7 yX7_leaves yX7_leaves, Cond.code yX7_leaves cX7_leaves 3 none, Cond.methodLink RX7 201 yX7_isServed, Cond.instanceMethod yX7_isServed, Cond.selects RX7 yX7_isServed yX7_isServed, Cond.code yX7_isServed cX7_isServed 3 (some .boolean), Cond.fieldLink RX7 40 "FilledForOneModel" "level" "[I", Cond.fieldLink RX7 25 "FilledForOneModel" "wants" "[I", Cond.methodLink RX7 187 yX7_hotFor, Cond.instanceMethod yX7_hotFor, Cond.selects RX7 yX7_hotFor yX7_hotFor, Cond.code yX7_hotFor cX7_hotFor 3 (some .int), Cond.fieldLink RX7 13 "FilledForOneModel" "setting" "[I", Cond.fieldLink RX7 43 "FilledForOneModel" "warmth" "[I", Cond.methodLink RX7 190 yX7_freeFor, Cond.instanceMethod yX7_freeFor, Cond.selects RX7 yX7_freeFor yX7_freeFor, Cond.code yX7_freeFor cX7_freeFor 4 (some .int), Cond.fieldLink RX7 52 "FilledForOneModel" "putBy" "[I", Cond.methodLink RX7 193 yX7_putsOn, Cond.instanceMethod yX7_putsOn, Cond.selects RX7 yX7_putsOn yX7_putsOn, Cond.code yX7_putsOn cX7_putsOn 5 none]
def wsX7_goesToEnd_r3 : List Cond := [Cond.fieldLink RX7 16 "FilledForOneModel" "kind" "[I", Cond.fieldLink RX7 46 "FilledForOneModel" "age" "[I", Cond.methodLink RX7 175 yX7_upTo, Cond.instanceMethod yX7_upTo, Cond.selects RX7 yX7_upTo yX7_upTo, Cond.code yX7_upTo cX7_upTo 4 (some .int), Cond.methodLink RX7 172 yX7_cupsBy, Cond.instanceMethod yX7_cupsBy, Cond.selects RX7 yX7_cupsBy yX7_cupsBy, Cond.code yX7_cupsBy cX7_cupsBy 3 (some .int), Cond.fieldLink RX7 19 "FilledForOneModel" "figure" "[I", Cond.methodLink RX7 166 yX7_wantsInLine, Cond.instanceMethod yX7_wantsInLine, Cond.selects RX7 yX7_wantsInLine yX7_wantsInLine, Cond.code yX7_wantsInLine cX7_wantsInLine 3 (some .int), Cond.methodLink RX7 169 yX7_wantsSoon, Cond.instanceMethod yX7_wantsSoon, Cond.selects RX7 yX7_wantsSoon yX7_wantsSoon, Cond.code yX7_wantsSoon cX7_wantsSoon 4 (some .int), Cond.methodLink RX7 178 yX7_boilTime, Cond.instanceMethod yX7_boilTime, Cond.selects RX7 yX7_boilTime yX7_boilTime, Cond.code yX7_boilTime cX7_boilTime 4 (some .int), Cond.methodLink RX7 204 yX7_cools]
def wsX7_goesToEnd_r4 : List Cond := [Cond.instanceMethod yX7_cools, Cond.selects RX7 yX7_cools yX7_cools, Cond.code yX7_cools cX7_cools 2 none]
def wsX7_goesToEnd : List Cond := .code yX7_goesToEnd cX7_goesToEnd 1 none :: ((wsX7_goesToEnd_r1 ++ (wsX7_goesToEnd_r2 ++ (wsX7_goesToEnd_r3 ++ wsX7_goesToEnd_r4))) ++ wsX70)
def wsX7_begins : List Cond := .code yX7_begins cX7_begins 2 none :: ([.fieldLink RX7 122 "FilledForOneModel" "minute" "I", .fieldLink RX7 160 "FilledForOneModel" "lineMany" "I", .fieldLink RX7 31 "FilledForOneModel" "state" "[I", .fieldLink RX7 34 "FilledForOneModel" "waited" "[I", .fieldLink RX7 40 "FilledForOneModel" "level" "[I", .fieldLink RX7 43 "FilledForOneModel" "warmth" "[I", .fieldLink RX7 46 "FilledForOneModel" "age" "[I", .fieldLink RX7 49 "FilledForOneModel" "busyTill" "[I", .fieldLink RX7 52 "FilledForOneModel" "putBy" "[I"] ++ wsX70)
def wsX7_stateMany : List Cond := .code yX7_stateMany cX7_stateMany 4 (some .int) :: ([.fieldLink RX7 77 "FilledForOneModel" "comers" "I", .fieldLink RX7 31 "FilledForOneModel" "state" "[I"] ++ wsX70)
def wsX7_waitedAll : List Cond := .code yX7_waitedAll cX7_waitedAll 3 (some .int) :: ([.fieldLink RX7 77 "FilledForOneModel" "comers" "I", .fieldLink RX7 34 "FilledForOneModel" "waited" "[I"] ++ wsX70)
def wsX7_costNow : List Cond := .code yX7_costNow cX7_costNow 1 (some .int) :: ([.fieldLink RX7 13 "FilledForOneModel" "setting" "[I", .fieldLink RX7 40 "FilledForOneModel" "level" "[I", .methodLink RX7 213 yX7_waitedAll, .instanceMethod yX7_waitedAll, .selects RX7 yX7_waitedAll yX7_waitedAll, .initialized RX7, .code yX7_waitedAll cX7_waitedAll 3 (some .int), .fieldLink RX7 77 "FilledForOneModel" "comers" "I", .fieldLink RX7 34 "FilledForOneModel" "waited" "[I", .methodLink RX7 216 yX7_stateMany, .instanceMethod yX7_stateMany, .selects RX7 yX7_stateMany yX7_stateMany, .code yX7_stateMany cX7_stateMany 4 (some .int), .fieldLink RX7 31 "FilledForOneModel" "state" "[I"] ++ wsX70)
def wsX7_costAnew_r1 : List Cond := [Cond.methodLink RX7 219 yX7_begins, Cond.instanceMethod yX7_begins, Cond.selects RX7 yX7_begins yX7_begins, Cond.initialized RX7, Cond.code yX7_begins cX7_begins 2 none, Cond.fieldLink RX7 122 "FilledForOneModel" "minute" "I", Cond.fieldLink RX7 160 "FilledForOneModel" "lineMany" "I", Cond.fieldLink RX7 31 "FilledForOneModel" "state" "[I", Cond.fieldLink RX7 34 "FilledForOneModel" "waited" "[I", Cond.fieldLink RX7 40 "FilledForOneModel" "level" "[I", Cond.fieldLink RX7 43 "FilledForOneModel" "warmth" "[I", Cond.fieldLink RX7 46 "FilledForOneModel" "age" "[I", Cond.fieldLink RX7 49 "FilledForOneModel" "busyTill" "[I", Cond.fieldLink RX7 52 "FilledForOneModel" "putBy" "[I", Cond.methodLink RX7 222 yX7_goesToEnd, Cond.instanceMethod yX7_goesToEnd, Cond.selects RX7 yX7_goesToEnd yX7_goesToEnd, Cond.code yX7_goesToEnd cX7_goesToEnd 1 none, Cond.fieldLink RX7 181 "FilledForOneModel" "putOn" "I", Cond.methodLink RX7 207 yX7_isOver, Cond.instanceMethod yX7_isOver, Cond.selects RX7 yX7_isOver yX7_isOver, Cond.code yX7_isOver cX7_isOver 2 (some .boolean), Cond.fieldLink RX7 77 "FilledForOneModel" "comers" "I"]
def wsX7_costAnew_r2 : List Cond := [Cond.methodLink RX7 184 yX7_isFree, Cond.instanceMethod yX7_isFree, Cond.selects RX7 yX7_isFree yX7_isFree, Cond.code yX7_isFree cX7_isFree 2 (some .boolean), Cond.methodLink RX7 210 yX7_goesMinute, Cond.instanceMethod yX7_goesMinute, Cond.selects RX7 yX7_goesMinute yX7_goesMinute, Cond.code yX7_goesMinute cX7_goesMinute 3 none, Cond.fieldLink RX7 22 "FilledForOneModel" "comes" "[I", Cond.fieldLink RX7 37 "FilledForOneModel" "line" "[I", Cond.fieldLink RX7 28 "FilledForOneModel" "patience" "[I", Cond.methodLink RX7 197 yX7_leaves, Cond.instanceMethod yX7_leaves, Cond.selects RX7 yX7_leaves yX7_leaves, Cond.code yX7_leaves cX7_leaves 3 none, Cond.methodLink RX7 201 yX7_isServed, Cond.instanceMethod yX7_isServed, Cond.selects RX7 yX7_isServed yX7_isServed, Cond.code yX7_isServed cX7_isServed 3 (some .boolean), Cond.fieldLink RX7 25 "FilledForOneModel" "wants" "[I", Cond.methodLink RX7 187 yX7_hotFor, Cond.instanceMethod yX7_hotFor, Cond.selects RX7 yX7_hotFor yX7_hotFor, Cond.code yX7_hotFor cX7_hotFor 3 (some .int)]
def wsX7_costAnew_r3 : List Cond := [Cond.fieldLink RX7 13 "FilledForOneModel" "setting" "[I", Cond.methodLink RX7 190 yX7_freeFor, Cond.instanceMethod yX7_freeFor, Cond.selects RX7 yX7_freeFor yX7_freeFor, Cond.code yX7_freeFor cX7_freeFor 4 (some .int), Cond.methodLink RX7 193 yX7_putsOn, Cond.instanceMethod yX7_putsOn, Cond.selects RX7 yX7_putsOn yX7_putsOn, Cond.code yX7_putsOn cX7_putsOn 5 none, Cond.fieldLink RX7 16 "FilledForOneModel" "kind" "[I", Cond.methodLink RX7 175 yX7_upTo, Cond.instanceMethod yX7_upTo, Cond.selects RX7 yX7_upTo yX7_upTo, Cond.code yX7_upTo cX7_upTo 4 (some .int), Cond.methodLink RX7 172 yX7_cupsBy, Cond.instanceMethod yX7_cupsBy, Cond.selects RX7 yX7_cupsBy yX7_cupsBy, Cond.code yX7_cupsBy cX7_cupsBy 3 (some .int), Cond.fieldLink RX7 19 "FilledForOneModel" "figure" "[I", Cond.methodLink RX7 166 yX7_wantsInLine, Cond.instanceMethod yX7_wantsInLine, Cond.selects RX7 yX7_wantsInLine yX7_wantsInLine, Cond.code yX7_wantsInLine cX7_wantsInLine 3 (some .int), Cond.methodLink RX7 169 yX7_wantsSoon]
def wsX7_costAnew_r4 : List Cond := [Cond.instanceMethod yX7_wantsSoon, Cond.selects RX7 yX7_wantsSoon yX7_wantsSoon, Cond.code yX7_wantsSoon cX7_wantsSoon 4 (some .int), Cond.methodLink RX7 178 yX7_boilTime, Cond.instanceMethod yX7_boilTime, Cond.selects RX7 yX7_boilTime yX7_boilTime, Cond.code yX7_boilTime cX7_boilTime 4 (some .int), Cond.methodLink RX7 204 yX7_cools, Cond.instanceMethod yX7_cools, Cond.selects RX7 yX7_cools yX7_cools, Cond.code yX7_cools cX7_cools 2 none, Cond.methodLink RX7 225 yX7_costNow, Cond.instanceMethod yX7_costNow, Cond.selects RX7 yX7_costNow yX7_costNow, Cond.code yX7_costNow cX7_costNow 1 (some .int), Cond.methodLink RX7 213 yX7_waitedAll, Cond.instanceMethod yX7_waitedAll, Cond.selects RX7 yX7_waitedAll yX7_waitedAll, Cond.code yX7_waitedAll cX7_waitedAll 3 (some .int), Cond.methodLink RX7 216 yX7_stateMany, Cond.instanceMethod yX7_stateMany, Cond.selects RX7 yX7_stateMany yX7_stateMany, Cond.code yX7_stateMany cX7_stateMany 4 (some .int)]
def wsX7_costAnew : List Cond := .code yX7_costAnew cX7_costAnew 1 (some .int) :: ((wsX7_costAnew_r1 ++ (wsX7_costAnew_r2 ++ (wsX7_costAnew_r3 ++ wsX7_costAnew_r4))) ++ wsX70)
def wsX7_comer_r1 : List Cond := [Cond.fieldLink RX7 16 "FilledForOneModel" "kind" "[I", Cond.fieldLink RX7 19 "FilledForOneModel" "figure" "[I", Cond.fieldLink RX7 22 "FilledForOneModel" "comes" "[I", Cond.fieldLink RX7 25 "FilledForOneModel" "wants" "[I", Cond.fieldLink RX7 28 "FilledForOneModel" "patience" "[I", Cond.fieldLink RX7 31 "FilledForOneModel" "state" "[I", Cond.fieldLink RX7 34 "FilledForOneModel" "waited" "[I", Cond.methodLink RX7 132 yX7_isComer, Cond.instanceMethod yX7_isComer, Cond.selects RX7 yX7_isComer yX7_isComer, Cond.initialized RX7, Cond.code yX7_isComer cX7_isComer 2 (some .boolean), Cond.fieldLink RX7 77 "FilledForOneModel" "comers" "I", Cond.methodLink RX7 88 yX7_no, Cond.instanceMethod yX7_no, Cond.selects RX7 yX7_no yX7_no, Cond.code yX7_no cX7_no 2 (some .int), Cond.fieldLink RX7 7 "FilledForOneModel" "refused" "[I", Cond.methodLink RX7 175 yX7_upTo, Cond.instanceMethod yX7_upTo, Cond.selects RX7 yX7_upTo yX7_upTo, Cond.code yX7_upTo cX7_upTo 4 (some .int), Cond.fieldLink RX7 13 "FilledForOneModel" "setting" "[I", Cond.methodLink RX7 172 yX7_cupsBy]
def wsX7_comer_r2 : List Cond := [Cond.instanceMethod yX7_cupsBy, Cond.selects RX7 yX7_cupsBy yX7_cupsBy, Cond.code yX7_cupsBy cX7_cupsBy 3 (some .int), Cond.methodLink RX7 166 yX7_wantsInLine, Cond.instanceMethod yX7_wantsInLine, Cond.selects RX7 yX7_wantsInLine yX7_wantsInLine, Cond.code yX7_wantsInLine cX7_wantsInLine 3 (some .int), Cond.fieldLink RX7 160 "FilledForOneModel" "lineMany" "I", Cond.fieldLink RX7 37 "FilledForOneModel" "line" "[I", Cond.methodLink RX7 169 yX7_wantsSoon, Cond.instanceMethod yX7_wantsSoon, Cond.selects RX7 yX7_wantsSoon yX7_wantsSoon, Cond.code yX7_wantsSoon cX7_wantsSoon 4 (some .int), Cond.fieldLink RX7 122 "FilledForOneModel" "minute" "I"]
def wsX7_comer : List Cond := .code yX7_comer cX7_comer 3 (some .int) :: ((wsX7_comer_r1 ++ wsX7_comer_r2) ++ wsX70)
def wsX7_kind : List Cond := .code yX7_kind cX7_kind 6 (some .int) :: ([.fieldLink RX7 16 "FilledForOneModel" "kind" "[I", .fieldLink RX7 19 "FilledForOneModel" "figure" "[I", .methodLink RX7 132 yX7_isComer, .instanceMethod yX7_isComer, .selects RX7 yX7_isComer yX7_isComer, .initialized RX7, .code yX7_isComer cX7_isComer 2 (some .boolean), .fieldLink RX7 77 "FilledForOneModel" "comers" "I", .methodLink RX7 99 yX7_isIn, .static yX7_isIn, .code yX7_isIn cX7_isIn 3 (some .boolean), .methodLink RX7 81 yX7_bound, .static yX7_bound, .code yX7_bound cX7_bound 3 (some .int), .methodLink RX7 88 yX7_no, .instanceMethod yX7_no, .selects RX7 yX7_no yX7_no, .code yX7_no cX7_no 2 (some .int), .fieldLink RX7 7 "FilledForOneModel" "refused" "[I"] ++ wsX70)
def wsX7_kettle : List Cond := .code yX7_kettle cX7_kettle 3 (some .int) :: ([.fieldLink RX7 13 "FilledForOneModel" "setting" "[I", .fieldLink RX7 40 "FilledForOneModel" "level" "[I", .fieldLink RX7 43 "FilledForOneModel" "warmth" "[I", .fieldLink RX7 46 "FilledForOneModel" "age" "[I", .fieldLink RX7 49 "FilledForOneModel" "busyTill" "[I", .fieldLink RX7 122 "FilledForOneModel" "minute" "I", .methodLink RX7 99 yX7_isIn, .static yX7_isIn, .initialized RX7, .code yX7_isIn cX7_isIn 3 (some .boolean), .methodLink RX7 88 yX7_no, .instanceMethod yX7_no, .selects RX7 yX7_no yX7_no, .code yX7_no cX7_no 2 (some .int), .fieldLink RX7 7 "FilledForOneModel" "refused" "[I", .methodLink RX7 184 yX7_isFree, .instanceMethod yX7_isFree, .selects RX7 yX7_isFree yX7_isFree, .code yX7_isFree cX7_isFree 2 (some .boolean)] ++ wsX70)
def wsX7_set_r1 : List Cond := [Cond.fieldLink RX7 13 "FilledForOneModel" "setting" "[I", Cond.methodLink RX7 125 yX7_notSet, Cond.instanceMethod yX7_notSet, Cond.selects RX7 yX7_notSet yX7_notSet, Cond.initialized RX7, Cond.code yX7_notSet cX7_notSet 5 (some .int), Cond.fieldLink RX7 40 "FilledForOneModel" "level" "[I", Cond.fieldLink RX7 122 "FilledForOneModel" "minute" "I", Cond.methodLink RX7 99 yX7_isIn, Cond.static yX7_isIn, Cond.code yX7_isIn cX7_isIn 3 (some .boolean), Cond.methodLink RX7 116 yX7_leastOf, Cond.static yX7_leastOf, Cond.code yX7_leastOf cX7_leastOf 1 (some .int), Cond.methodLink RX7 119 yX7_mostOf, Cond.static yX7_mostOf, Cond.code yX7_mostOf cX7_mostOf 1 (some .int), Cond.methodLink RX7 81 yX7_bound, Cond.static yX7_bound, Cond.code yX7_bound cX7_bound 3 (some .int), Cond.methodLink RX7 88 yX7_no, Cond.instanceMethod yX7_no, Cond.selects RX7 yX7_no yX7_no, Cond.code yX7_no cX7_no 2 (some .int)]
def wsX7_set_r2 : List Cond := [Cond.fieldLink RX7 7 "FilledForOneModel" "refused" "[I"]
def wsX7_set : List Cond := .code yX7_set cX7_set 5 (some .int) :: ((wsX7_set_r1 ++ wsX7_set_r2) ++ wsX70)
def wsX7_go_r1 : List Cond := [Cond.fieldLink RX7 122 "FilledForOneModel" "minute" "I", Cond.methodLink RX7 81 yX7_bound, Cond.static yX7_bound, Cond.initialized RX7, Cond.code yX7_bound cX7_bound 3 (some .int), Cond.methodLink RX7 207 yX7_isOver, Cond.instanceMethod yX7_isOver, Cond.selects RX7 yX7_isOver yX7_isOver, Cond.code yX7_isOver cX7_isOver 2 (some .boolean), Cond.fieldLink RX7 77 "FilledForOneModel" "comers" "I", Cond.fieldLink RX7 31 "FilledForOneModel" "state" "[I", Cond.methodLink RX7 184 yX7_isFree, Cond.instanceMethod yX7_isFree, Cond.selects RX7 yX7_isFree yX7_isFree, Cond.code yX7_isFree cX7_isFree 2 (some .boolean), Cond.fieldLink RX7 49 "FilledForOneModel" "busyTill" "[I", Cond.methodLink RX7 88 yX7_no, Cond.instanceMethod yX7_no, Cond.selects RX7 yX7_no yX7_no, Cond.code yX7_no cX7_no 2 (some .int), Cond.fieldLink RX7 7 "FilledForOneModel" "refused" "[I", Cond.methodLink RX7 210 yX7_goesMinute, Cond.instanceMethod yX7_goesMinute, Cond.selects RX7 yX7_goesMinute yX7_goesMinute]
def wsX7_go_r2 : List Cond := [Cond.code yX7_goesMinute cX7_goesMinute 3 none, Cond.fieldLink RX7 22 "FilledForOneModel" "comes" "[I", Cond.fieldLink RX7 37 "FilledForOneModel" "line" "[I", Cond.fieldLink RX7 160 "FilledForOneModel" "lineMany" "I", Cond.fieldLink RX7 28 "FilledForOneModel" "patience" "[I", Cond.fieldLink RX7 34 "FilledForOneModel" "waited" "[I", Cond.methodLink RX7 197 yX7_leaves, Cond.instanceMethod yX7_leaves, Cond.selects RX7 yX7_leaves yX7_leaves, Cond.code yX7_leaves cX7_leaves 3 none, Cond.methodLink RX7 201 yX7_isServed, Cond.instanceMethod yX7_isServed, Cond.selects RX7 yX7_isServed yX7_isServed, Cond.code yX7_isServed cX7_isServed 3 (some .boolean), Cond.fieldLink RX7 40 "FilledForOneModel" "level" "[I", Cond.fieldLink RX7 25 "FilledForOneModel" "wants" "[I", Cond.methodLink RX7 187 yX7_hotFor, Cond.instanceMethod yX7_hotFor, Cond.selects RX7 yX7_hotFor yX7_hotFor, Cond.code yX7_hotFor cX7_hotFor 3 (some .int), Cond.fieldLink RX7 13 "FilledForOneModel" "setting" "[I", Cond.fieldLink RX7 43 "FilledForOneModel" "warmth" "[I", Cond.methodLink RX7 190 yX7_freeFor, Cond.instanceMethod yX7_freeFor]
def wsX7_go_r3 : List Cond := [Cond.selects RX7 yX7_freeFor yX7_freeFor, Cond.code yX7_freeFor cX7_freeFor 4 (some .int), Cond.fieldLink RX7 52 "FilledForOneModel" "putBy" "[I", Cond.methodLink RX7 193 yX7_putsOn, Cond.instanceMethod yX7_putsOn, Cond.selects RX7 yX7_putsOn yX7_putsOn, Cond.code yX7_putsOn cX7_putsOn 5 none, Cond.fieldLink RX7 16 "FilledForOneModel" "kind" "[I", Cond.fieldLink RX7 46 "FilledForOneModel" "age" "[I", Cond.fieldLink RX7 181 "FilledForOneModel" "putOn" "I", Cond.methodLink RX7 175 yX7_upTo, Cond.instanceMethod yX7_upTo, Cond.selects RX7 yX7_upTo yX7_upTo, Cond.code yX7_upTo cX7_upTo 4 (some .int), Cond.methodLink RX7 172 yX7_cupsBy, Cond.instanceMethod yX7_cupsBy, Cond.selects RX7 yX7_cupsBy yX7_cupsBy, Cond.code yX7_cupsBy cX7_cupsBy 3 (some .int), Cond.fieldLink RX7 19 "FilledForOneModel" "figure" "[I", Cond.methodLink RX7 166 yX7_wantsInLine, Cond.instanceMethod yX7_wantsInLine, Cond.selects RX7 yX7_wantsInLine yX7_wantsInLine, Cond.code yX7_wantsInLine cX7_wantsInLine 3 (some .int), Cond.methodLink RX7 169 yX7_wantsSoon]
def wsX7_go_r4 : List Cond := [Cond.instanceMethod yX7_wantsSoon, Cond.selects RX7 yX7_wantsSoon yX7_wantsSoon, Cond.code yX7_wantsSoon cX7_wantsSoon 4 (some .int), Cond.methodLink RX7 178 yX7_boilTime, Cond.instanceMethod yX7_boilTime, Cond.selects RX7 yX7_boilTime yX7_boilTime, Cond.code yX7_boilTime cX7_boilTime 4 (some .int), Cond.methodLink RX7 204 yX7_cools, Cond.instanceMethod yX7_cools, Cond.selects RX7 yX7_cools yX7_cools, Cond.code yX7_cools cX7_cools 2 none]
def wsX7_go : List Cond := .code yX7_go cX7_go 4 (some .int) :: ((wsX7_go_r1 ++ (wsX7_go_r2 ++ (wsX7_go_r3 ++ wsX7_go_r4))) ++ wsX70)
def wsX7_anew : List Cond := .code yX7_anew cX7_anew 2 (some .int) :: ([.fieldLink RX7 122 "FilledForOneModel" "minute" "I", .methodLink RX7 219 yX7_begins, .instanceMethod yX7_begins, .selects RX7 yX7_begins yX7_begins, .initialized RX7, .code yX7_begins cX7_begins 2 none, .fieldLink RX7 160 "FilledForOneModel" "lineMany" "I", .fieldLink RX7 31 "FilledForOneModel" "state" "[I", .fieldLink RX7 34 "FilledForOneModel" "waited" "[I", .fieldLink RX7 40 "FilledForOneModel" "level" "[I", .fieldLink RX7 43 "FilledForOneModel" "warmth" "[I", .fieldLink RX7 46 "FilledForOneModel" "age" "[I", .fieldLink RX7 49 "FilledForOneModel" "busyTill" "[I", .fieldLink RX7 52 "FilledForOneModel" "putBy" "[I"] ++ wsX70)
def wsX7_line : List Cond := .code yX7_line cX7_line 2 (some .int) :: ([.fieldLink RX7 160 "FilledForOneModel" "lineMany" "I", .fieldLink RX7 37 "FilledForOneModel" "line" "[I", .methodLink RX7 88 yX7_no, .instanceMethod yX7_no, .selects RX7 yX7_no yX7_no, .initialized RX7, .code yX7_no cX7_no 2 (some .int), .fieldLink RX7 7 "FilledForOneModel" "refused" "[I"] ++ wsX70)
def wsX7_rest_r1 : List Cond := [Cond.fieldLink RX7 181 "FilledForOneModel" "putOn" "I", Cond.fieldLink RX7 40 "FilledForOneModel" "level" "[I", Cond.methodLink RX7 99 yX7_isIn, Cond.static yX7_isIn, Cond.initialized RX7, Cond.code yX7_isIn cX7_isIn 3 (some .boolean), Cond.methodLink RX7 88 yX7_no, Cond.instanceMethod yX7_no, Cond.selects RX7 yX7_no yX7_no, Cond.code yX7_no cX7_no 2 (some .int), Cond.fieldLink RX7 7 "FilledForOneModel" "refused" "[I", Cond.methodLink RX7 139 yX7_passesAll, Cond.instanceMethod yX7_passesAll, Cond.selects RX7 yX7_passesAll yX7_passesAll, Cond.code yX7_passesAll cX7_passesAll 3 none, Cond.fieldLink RX7 150 "FilledForOneModel" "cursor" "I", Cond.fieldLink RX7 146 "FilledForOneModel" "isKeeping" "Z", Cond.fieldLink RX7 13 "FilledForOneModel" "setting" "[I", Cond.fieldLink RX7 16 "FilledForOneModel" "kind" "[I", Cond.fieldLink RX7 19 "FilledForOneModel" "figure" "[I", Cond.fieldLink RX7 22 "FilledForOneModel" "comes" "[I", Cond.fieldLink RX7 25 "FilledForOneModel" "wants" "[I", Cond.fieldLink RX7 28 "FilledForOneModel" "patience" "[I", Cond.fieldLink RX7 31 "FilledForOneModel" "state" "[I"]
def wsX7_rest_r2 : List Cond := [Cond.fieldLink RX7 34 "FilledForOneModel" "waited" "[I", Cond.fieldLink RX7 37 "FilledForOneModel" "line" "[I", Cond.fieldLink RX7 43 "FilledForOneModel" "warmth" "[I", Cond.fieldLink RX7 46 "FilledForOneModel" "age" "[I", Cond.fieldLink RX7 49 "FilledForOneModel" "busyTill" "[I", Cond.fieldLink RX7 52 "FilledForOneModel" "putBy" "[I", Cond.fieldLink RX7 77 "FilledForOneModel" "comers" "I", Cond.fieldLink RX7 122 "FilledForOneModel" "minute" "I", Cond.fieldLink RX7 160 "FilledForOneModel" "lineMany" "I", Cond.methodLink RX7 153 yX7_passes, Cond.instanceMethod yX7_passes, Cond.selects RX7 yX7_passes yX7_passes, Cond.code yX7_passes cX7_passes 3 none, Cond.fieldLink RX7 67 "FilledForOneModel" "kept" "[I", Cond.methodLink RX7 157 yX7_passOne, Cond.instanceMethod yX7_passOne, Cond.selects RX7 yX7_passOne yX7_passOne, Cond.code yX7_passOne cX7_passOne 3 (some .int), Cond.methodLink RX7 222 yX7_goesToEnd, Cond.instanceMethod yX7_goesToEnd, Cond.selects RX7 yX7_goesToEnd yX7_goesToEnd, Cond.code yX7_goesToEnd cX7_goesToEnd 1 none, Cond.methodLink RX7 207 yX7_isOver, Cond.instanceMethod yX7_isOver]
def wsX7_rest_r3 : List Cond := [Cond.selects RX7 yX7_isOver yX7_isOver, Cond.code yX7_isOver cX7_isOver 2 (some .boolean), Cond.methodLink RX7 184 yX7_isFree, Cond.instanceMethod yX7_isFree, Cond.selects RX7 yX7_isFree yX7_isFree, Cond.code yX7_isFree cX7_isFree 2 (some .boolean), Cond.methodLink RX7 210 yX7_goesMinute, Cond.instanceMethod yX7_goesMinute, Cond.selects RX7 yX7_goesMinute yX7_goesMinute, Cond.code yX7_goesMinute cX7_goesMinute 3 none, Cond.methodLink RX7 197 yX7_leaves, Cond.instanceMethod yX7_leaves, Cond.selects RX7 yX7_leaves yX7_leaves, Cond.code yX7_leaves cX7_leaves 3 none, Cond.methodLink RX7 201 yX7_isServed, Cond.instanceMethod yX7_isServed, Cond.selects RX7 yX7_isServed yX7_isServed, Cond.code yX7_isServed cX7_isServed 3 (some .boolean), Cond.methodLink RX7 187 yX7_hotFor, Cond.instanceMethod yX7_hotFor, Cond.selects RX7 yX7_hotFor yX7_hotFor, Cond.code yX7_hotFor cX7_hotFor 3 (some .int), Cond.methodLink RX7 190 yX7_freeFor, Cond.instanceMethod yX7_freeFor]
def wsX7_rest_r4 : List Cond := [Cond.selects RX7 yX7_freeFor yX7_freeFor, Cond.code yX7_freeFor cX7_freeFor 4 (some .int), Cond.methodLink RX7 193 yX7_putsOn, Cond.instanceMethod yX7_putsOn, Cond.selects RX7 yX7_putsOn yX7_putsOn, Cond.code yX7_putsOn cX7_putsOn 5 none, Cond.methodLink RX7 175 yX7_upTo, Cond.instanceMethod yX7_upTo, Cond.selects RX7 yX7_upTo yX7_upTo, Cond.code yX7_upTo cX7_upTo 4 (some .int), Cond.methodLink RX7 172 yX7_cupsBy, Cond.instanceMethod yX7_cupsBy, Cond.selects RX7 yX7_cupsBy yX7_cupsBy, Cond.code yX7_cupsBy cX7_cupsBy 3 (some .int), Cond.methodLink RX7 166 yX7_wantsInLine, Cond.instanceMethod yX7_wantsInLine, Cond.selects RX7 yX7_wantsInLine yX7_wantsInLine, Cond.code yX7_wantsInLine cX7_wantsInLine 3 (some .int), Cond.methodLink RX7 169 yX7_wantsSoon, Cond.instanceMethod yX7_wantsSoon, Cond.selects RX7 yX7_wantsSoon yX7_wantsSoon, Cond.code yX7_wantsSoon cX7_wantsSoon 4 (some .int), Cond.methodLink RX7 178 yX7_boilTime, Cond.instanceMethod yX7_boilTime]
def wsX7_rest_r5 : List Cond := [Cond.selects RX7 yX7_boilTime yX7_boilTime, Cond.code yX7_boilTime cX7_boilTime 4 (some .int), Cond.methodLink RX7 204 yX7_cools, Cond.instanceMethod yX7_cools, Cond.selects RX7 yX7_cools yX7_cools, Cond.code yX7_cools cX7_cools 2 none, Cond.methodLink RX7 213 yX7_waitedAll, Cond.instanceMethod yX7_waitedAll, Cond.selects RX7 yX7_waitedAll yX7_waitedAll, Cond.code yX7_waitedAll cX7_waitedAll 3 (some .int), Cond.methodLink RX7 216 yX7_stateMany, Cond.instanceMethod yX7_stateMany, Cond.selects RX7 yX7_stateMany yX7_stateMany, Cond.code yX7_stateMany cX7_stateMany 4 (some .int), Cond.methodLink RX7 225 yX7_costNow, Cond.instanceMethod yX7_costNow, Cond.selects RX7 yX7_costNow yX7_costNow, Cond.code yX7_costNow cX7_costNow 1 (some .int)]
def wsX7_rest : List Cond := .code yX7_rest cX7_rest 3 (some .int) :: ((wsX7_rest_r1 ++ (wsX7_rest_r2 ++ (wsX7_rest_r3 ++ (wsX7_rest_r4 ++ wsX7_rest_r5)))) ++ wsX70)
def wsX7_when_r1 : List Cond := [Cond.fieldLink RX7 31 "FilledForOneModel" "state" "[I", Cond.fieldLink RX7 22 "FilledForOneModel" "comes" "[I", Cond.fieldLink RX7 34 "FilledForOneModel" "waited" "[I", Cond.methodLink RX7 132 yX7_isComer, Cond.instanceMethod yX7_isComer, Cond.selects RX7 yX7_isComer yX7_isComer, Cond.initialized RX7, Cond.code yX7_isComer cX7_isComer 2 (some .boolean), Cond.fieldLink RX7 77 "FilledForOneModel" "comers" "I", Cond.methodLink RX7 88 yX7_no, Cond.instanceMethod yX7_no, Cond.selects RX7 yX7_no yX7_no, Cond.code yX7_no cX7_no 2 (some .int), Cond.fieldLink RX7 7 "FilledForOneModel" "refused" "[I", Cond.methodLink RX7 139 yX7_passesAll, Cond.instanceMethod yX7_passesAll, Cond.selects RX7 yX7_passesAll yX7_passesAll, Cond.code yX7_passesAll cX7_passesAll 3 none, Cond.fieldLink RX7 150 "FilledForOneModel" "cursor" "I", Cond.fieldLink RX7 146 "FilledForOneModel" "isKeeping" "Z", Cond.fieldLink RX7 13 "FilledForOneModel" "setting" "[I", Cond.fieldLink RX7 16 "FilledForOneModel" "kind" "[I", Cond.fieldLink RX7 19 "FilledForOneModel" "figure" "[I", Cond.fieldLink RX7 25 "FilledForOneModel" "wants" "[I"]
def wsX7_when_r2 : List Cond := [Cond.fieldLink RX7 28 "FilledForOneModel" "patience" "[I", Cond.fieldLink RX7 37 "FilledForOneModel" "line" "[I", Cond.fieldLink RX7 40 "FilledForOneModel" "level" "[I", Cond.fieldLink RX7 43 "FilledForOneModel" "warmth" "[I", Cond.fieldLink RX7 46 "FilledForOneModel" "age" "[I", Cond.fieldLink RX7 49 "FilledForOneModel" "busyTill" "[I", Cond.fieldLink RX7 52 "FilledForOneModel" "putBy" "[I", Cond.fieldLink RX7 122 "FilledForOneModel" "minute" "I", Cond.fieldLink RX7 160 "FilledForOneModel" "lineMany" "I", Cond.methodLink RX7 153 yX7_passes, Cond.instanceMethod yX7_passes, Cond.selects RX7 yX7_passes yX7_passes, Cond.code yX7_passes cX7_passes 3 none, Cond.fieldLink RX7 67 "FilledForOneModel" "kept" "[I", Cond.methodLink RX7 157 yX7_passOne, Cond.instanceMethod yX7_passOne, Cond.selects RX7 yX7_passOne yX7_passOne, Cond.code yX7_passOne cX7_passOne 3 (some .int), Cond.methodLink RX7 222 yX7_goesToEnd, Cond.instanceMethod yX7_goesToEnd, Cond.selects RX7 yX7_goesToEnd yX7_goesToEnd, Cond.code yX7_goesToEnd cX7_goesToEnd 1 none, Cond.fieldLink RX7 181 "FilledForOneModel" "putOn" "I", Cond.methodLink RX7 207 yX7_isOver]
def wsX7_when_r3 : List Cond := [Cond.instanceMethod yX7_isOver, Cond.selects RX7 yX7_isOver yX7_isOver, Cond.code yX7_isOver cX7_isOver 2 (some .boolean), Cond.methodLink RX7 184 yX7_isFree, Cond.instanceMethod yX7_isFree, Cond.selects RX7 yX7_isFree yX7_isFree, Cond.code yX7_isFree cX7_isFree 2 (some .boolean), Cond.methodLink RX7 210 yX7_goesMinute, Cond.instanceMethod yX7_goesMinute, Cond.selects RX7 yX7_goesMinute yX7_goesMinute, Cond.code yX7_goesMinute cX7_goesMinute 3 none, Cond.methodLink RX7 197 yX7_leaves, Cond.instanceMethod yX7_leaves, Cond.selects RX7 yX7_leaves yX7_leaves, Cond.code yX7_leaves cX7_leaves 3 none, Cond.methodLink RX7 201 yX7_isServed, Cond.instanceMethod yX7_isServed, Cond.selects RX7 yX7_isServed yX7_isServed, Cond.code yX7_isServed cX7_isServed 3 (some .boolean), Cond.methodLink RX7 187 yX7_hotFor, Cond.instanceMethod yX7_hotFor, Cond.selects RX7 yX7_hotFor yX7_hotFor, Cond.code yX7_hotFor cX7_hotFor 3 (some .int), Cond.methodLink RX7 190 yX7_freeFor]
def wsX7_when_r4 : List Cond := [Cond.instanceMethod yX7_freeFor, Cond.selects RX7 yX7_freeFor yX7_freeFor, Cond.code yX7_freeFor cX7_freeFor 4 (some .int), Cond.methodLink RX7 193 yX7_putsOn, Cond.instanceMethod yX7_putsOn, Cond.selects RX7 yX7_putsOn yX7_putsOn, Cond.code yX7_putsOn cX7_putsOn 5 none, Cond.methodLink RX7 175 yX7_upTo, Cond.instanceMethod yX7_upTo, Cond.selects RX7 yX7_upTo yX7_upTo, Cond.code yX7_upTo cX7_upTo 4 (some .int), Cond.methodLink RX7 172 yX7_cupsBy, Cond.instanceMethod yX7_cupsBy, Cond.selects RX7 yX7_cupsBy yX7_cupsBy, Cond.code yX7_cupsBy cX7_cupsBy 3 (some .int), Cond.methodLink RX7 166 yX7_wantsInLine, Cond.instanceMethod yX7_wantsInLine, Cond.selects RX7 yX7_wantsInLine yX7_wantsInLine, Cond.code yX7_wantsInLine cX7_wantsInLine 3 (some .int), Cond.methodLink RX7 169 yX7_wantsSoon, Cond.instanceMethod yX7_wantsSoon, Cond.selects RX7 yX7_wantsSoon yX7_wantsSoon, Cond.code yX7_wantsSoon cX7_wantsSoon 4 (some .int), Cond.methodLink RX7 178 yX7_boilTime]
def wsX7_when_r5 : List Cond := [Cond.instanceMethod yX7_boilTime, Cond.selects RX7 yX7_boilTime yX7_boilTime, Cond.code yX7_boilTime cX7_boilTime 4 (some .int), Cond.methodLink RX7 204 yX7_cools, Cond.instanceMethod yX7_cools, Cond.selects RX7 yX7_cools yX7_cools, Cond.code yX7_cools cX7_cools 2 none]
def wsX7_when : List Cond := .code yX7_when cX7_when 3 (some .int) :: ((wsX7_when_r1 ++ (wsX7_when_r2 ++ (wsX7_when_r3 ++ (wsX7_when_r4 ++ wsX7_when_r5)))) ++ wsX70)
def wsX7_bestKind_r1 : List Cond := [Cond.fieldLink RX7 16 "FilledForOneModel" "kind" "[I", Cond.constant RX7 76 (1000000000), Cond.fieldLink RX7 31 "FilledForOneModel" "state" "[I", Cond.fieldLink RX7 34 "FilledForOneModel" "waited" "[I", Cond.methodLink RX7 228 yX7_costAnew, Cond.instanceMethod yX7_costAnew, Cond.selects RX7 yX7_costAnew yX7_costAnew, Cond.initialized RX7, Cond.code yX7_costAnew cX7_costAnew 1 (some .int), Cond.methodLink RX7 219 yX7_begins, Cond.instanceMethod yX7_begins, Cond.selects RX7 yX7_begins yX7_begins, Cond.code yX7_begins cX7_begins 2 none, Cond.fieldLink RX7 122 "FilledForOneModel" "minute" "I", Cond.fieldLink RX7 160 "FilledForOneModel" "lineMany" "I", Cond.fieldLink RX7 40 "FilledForOneModel" "level" "[I", Cond.fieldLink RX7 43 "FilledForOneModel" "warmth" "[I", Cond.fieldLink RX7 46 "FilledForOneModel" "age" "[I", Cond.fieldLink RX7 49 "FilledForOneModel" "busyTill" "[I", Cond.fieldLink RX7 52 "FilledForOneModel" "putBy" "[I", Cond.methodLink RX7 222 yX7_goesToEnd, Cond.instanceMethod yX7_goesToEnd, Cond.selects RX7 yX7_goesToEnd yX7_goesToEnd, Cond.code yX7_goesToEnd cX7_goesToEnd 1 none]
def wsX7_bestKind_r2 : List Cond := [Cond.fieldLink RX7 181 "FilledForOneModel" "putOn" "I", Cond.methodLink RX7 207 yX7_isOver, Cond.instanceMethod yX7_isOver, Cond.selects RX7 yX7_isOver yX7_isOver, Cond.code yX7_isOver cX7_isOver 2 (some .boolean), Cond.fieldLink RX7 77 "FilledForOneModel" "comers" "I", Cond.methodLink RX7 184 yX7_isFree, Cond.instanceMethod yX7_isFree, Cond.selects RX7 yX7_isFree yX7_isFree, Cond.code yX7_isFree cX7_isFree 2 (some .boolean), Cond.methodLink RX7 210 yX7_goesMinute, Cond.instanceMethod yX7_goesMinute, Cond.selects RX7 yX7_goesMinute yX7_goesMinute, Cond.code yX7_goesMinute cX7_goesMinute 3 none, Cond.fieldLink RX7 22 "FilledForOneModel" "comes" "[I", Cond.fieldLink RX7 37 "FilledForOneModel" "line" "[I", Cond.fieldLink RX7 28 "FilledForOneModel" "patience" "[I", Cond.methodLink RX7 197 yX7_leaves, Cond.instanceMethod yX7_leaves, Cond.selects RX7 yX7_leaves yX7_leaves, Cond.code yX7_leaves cX7_leaves 3 none, Cond.methodLink RX7 201 yX7_isServed, Cond.instanceMethod yX7_isServed, Cond.selects RX7 yX7_isServed yX7_isServed]
def wsX7_bestKind_r3 : List Cond := [Cond.code yX7_isServed cX7_isServed 3 (some .boolean), Cond.fieldLink RX7 25 "FilledForOneModel" "wants" "[I", Cond.methodLink RX7 187 yX7_hotFor, Cond.instanceMethod yX7_hotFor, Cond.selects RX7 yX7_hotFor yX7_hotFor, Cond.code yX7_hotFor cX7_hotFor 3 (some .int), Cond.fieldLink RX7 13 "FilledForOneModel" "setting" "[I", Cond.methodLink RX7 190 yX7_freeFor, Cond.instanceMethod yX7_freeFor, Cond.selects RX7 yX7_freeFor yX7_freeFor, Cond.code yX7_freeFor cX7_freeFor 4 (some .int), Cond.methodLink RX7 193 yX7_putsOn, Cond.instanceMethod yX7_putsOn, Cond.selects RX7 yX7_putsOn yX7_putsOn, Cond.code yX7_putsOn cX7_putsOn 5 none, Cond.methodLink RX7 175 yX7_upTo, Cond.instanceMethod yX7_upTo, Cond.selects RX7 yX7_upTo yX7_upTo, Cond.code yX7_upTo cX7_upTo 4 (some .int), Cond.methodLink RX7 172 yX7_cupsBy, Cond.instanceMethod yX7_cupsBy, Cond.selects RX7 yX7_cupsBy yX7_cupsBy, Cond.code yX7_cupsBy cX7_cupsBy 3 (some .int), Cond.fieldLink RX7 19 "FilledForOneModel" "figure" "[I"]
def wsX7_bestKind_r4 : List Cond := [Cond.methodLink RX7 166 yX7_wantsInLine, Cond.instanceMethod yX7_wantsInLine, Cond.selects RX7 yX7_wantsInLine yX7_wantsInLine, Cond.code yX7_wantsInLine cX7_wantsInLine 3 (some .int), Cond.methodLink RX7 169 yX7_wantsSoon, Cond.instanceMethod yX7_wantsSoon, Cond.selects RX7 yX7_wantsSoon yX7_wantsSoon, Cond.code yX7_wantsSoon cX7_wantsSoon 4 (some .int), Cond.methodLink RX7 178 yX7_boilTime, Cond.instanceMethod yX7_boilTime, Cond.selects RX7 yX7_boilTime yX7_boilTime, Cond.code yX7_boilTime cX7_boilTime 4 (some .int), Cond.methodLink RX7 204 yX7_cools, Cond.instanceMethod yX7_cools, Cond.selects RX7 yX7_cools yX7_cools, Cond.code yX7_cools cX7_cools 2 none, Cond.methodLink RX7 225 yX7_costNow, Cond.instanceMethod yX7_costNow, Cond.selects RX7 yX7_costNow yX7_costNow, Cond.code yX7_costNow cX7_costNow 1 (some .int), Cond.methodLink RX7 213 yX7_waitedAll, Cond.instanceMethod yX7_waitedAll, Cond.selects RX7 yX7_waitedAll yX7_waitedAll, Cond.code yX7_waitedAll cX7_waitedAll 3 (some .int)]
def wsX7_bestKind_r5 : List Cond := [Cond.methodLink RX7 216 yX7_stateMany, Cond.instanceMethod yX7_stateMany, Cond.selects RX7 yX7_stateMany yX7_stateMany, Cond.code yX7_stateMany cX7_stateMany 4 (some .int)]
def wsX7_bestKind : List Cond := .code yX7_bestKind cX7_bestKind 8 (some .int) :: ((wsX7_bestKind_r1 ++ (wsX7_bestKind_r2 ++ (wsX7_bestKind_r3 ++ (wsX7_bestKind_r4 ++ wsX7_bestKind_r5)))) ++ wsX70)
def wsX7_best_r1 : List Cond := [Cond.methodLink RX7 132 yX7_isComer, Cond.instanceMethod yX7_isComer, Cond.selects RX7 yX7_isComer yX7_isComer, Cond.initialized RX7, Cond.code yX7_isComer cX7_isComer 2 (some .boolean), Cond.fieldLink RX7 77 "FilledForOneModel" "comers" "I", Cond.methodLink RX7 88 yX7_no, Cond.instanceMethod yX7_no, Cond.selects RX7 yX7_no yX7_no, Cond.code yX7_no cX7_no 2 (some .int), Cond.fieldLink RX7 7 "FilledForOneModel" "refused" "[I", Cond.methodLink RX7 99 yX7_isIn, Cond.static yX7_isIn, Cond.code yX7_isIn cX7_isIn 3 (some .boolean), Cond.methodLink RX7 139 yX7_passesAll, Cond.instanceMethod yX7_passesAll, Cond.selects RX7 yX7_passesAll yX7_passesAll, Cond.code yX7_passesAll cX7_passesAll 3 none, Cond.fieldLink RX7 150 "FilledForOneModel" "cursor" "I", Cond.fieldLink RX7 146 "FilledForOneModel" "isKeeping" "Z", Cond.fieldLink RX7 13 "FilledForOneModel" "setting" "[I", Cond.fieldLink RX7 16 "FilledForOneModel" "kind" "[I", Cond.fieldLink RX7 19 "FilledForOneModel" "figure" "[I", Cond.fieldLink RX7 22 "FilledForOneModel" "comes" "[I"]
def wsX7_best_r2 : List Cond := [Cond.fieldLink RX7 25 "FilledForOneModel" "wants" "[I", Cond.fieldLink RX7 28 "FilledForOneModel" "patience" "[I", Cond.fieldLink RX7 31 "FilledForOneModel" "state" "[I", Cond.fieldLink RX7 34 "FilledForOneModel" "waited" "[I", Cond.fieldLink RX7 37 "FilledForOneModel" "line" "[I", Cond.fieldLink RX7 40 "FilledForOneModel" "level" "[I", Cond.fieldLink RX7 43 "FilledForOneModel" "warmth" "[I", Cond.fieldLink RX7 46 "FilledForOneModel" "age" "[I", Cond.fieldLink RX7 49 "FilledForOneModel" "busyTill" "[I", Cond.fieldLink RX7 52 "FilledForOneModel" "putBy" "[I", Cond.fieldLink RX7 122 "FilledForOneModel" "minute" "I", Cond.fieldLink RX7 160 "FilledForOneModel" "lineMany" "I", Cond.methodLink RX7 153 yX7_passes, Cond.instanceMethod yX7_passes, Cond.selects RX7 yX7_passes yX7_passes, Cond.code yX7_passes cX7_passes 3 none, Cond.fieldLink RX7 67 "FilledForOneModel" "kept" "[I", Cond.methodLink RX7 157 yX7_passOne, Cond.instanceMethod yX7_passOne, Cond.selects RX7 yX7_passOne yX7_passOne, Cond.code yX7_passOne cX7_passOne 3 (some .int), Cond.methodLink RX7 231 yX7_bestKind, Cond.instanceMethod yX7_bestKind, Cond.selects RX7 yX7_bestKind yX7_bestKind]
def wsX7_best_r3 : List Cond := [Cond.code yX7_bestKind cX7_bestKind 8 (some .int), Cond.constant RX7 76 (1000000000), Cond.methodLink RX7 228 yX7_costAnew, Cond.instanceMethod yX7_costAnew, Cond.selects RX7 yX7_costAnew yX7_costAnew, Cond.code yX7_costAnew cX7_costAnew 1 (some .int), Cond.methodLink RX7 219 yX7_begins, Cond.instanceMethod yX7_begins, Cond.selects RX7 yX7_begins yX7_begins, Cond.code yX7_begins cX7_begins 2 none, Cond.methodLink RX7 222 yX7_goesToEnd, Cond.instanceMethod yX7_goesToEnd, Cond.selects RX7 yX7_goesToEnd yX7_goesToEnd, Cond.code yX7_goesToEnd cX7_goesToEnd 1 none, Cond.fieldLink RX7 181 "FilledForOneModel" "putOn" "I", Cond.methodLink RX7 207 yX7_isOver, Cond.instanceMethod yX7_isOver, Cond.selects RX7 yX7_isOver yX7_isOver, Cond.code yX7_isOver cX7_isOver 2 (some .boolean), Cond.methodLink RX7 184 yX7_isFree, Cond.instanceMethod yX7_isFree, Cond.selects RX7 yX7_isFree yX7_isFree, Cond.code yX7_isFree cX7_isFree 2 (some .boolean), Cond.methodLink RX7 210 yX7_goesMinute]
def wsX7_best_r4 : List Cond := [Cond.instanceMethod yX7_goesMinute, Cond.selects RX7 yX7_goesMinute yX7_goesMinute, Cond.code yX7_goesMinute cX7_goesMinute 3 none, Cond.methodLink RX7 197 yX7_leaves, Cond.instanceMethod yX7_leaves, Cond.selects RX7 yX7_leaves yX7_leaves, Cond.code yX7_leaves cX7_leaves 3 none, Cond.methodLink RX7 201 yX7_isServed, Cond.instanceMethod yX7_isServed, Cond.selects RX7 yX7_isServed yX7_isServed, Cond.code yX7_isServed cX7_isServed 3 (some .boolean), Cond.methodLink RX7 187 yX7_hotFor, Cond.instanceMethod yX7_hotFor, Cond.selects RX7 yX7_hotFor yX7_hotFor, Cond.code yX7_hotFor cX7_hotFor 3 (some .int), Cond.methodLink RX7 190 yX7_freeFor, Cond.instanceMethod yX7_freeFor, Cond.selects RX7 yX7_freeFor yX7_freeFor, Cond.code yX7_freeFor cX7_freeFor 4 (some .int), Cond.methodLink RX7 193 yX7_putsOn, Cond.instanceMethod yX7_putsOn, Cond.selects RX7 yX7_putsOn yX7_putsOn, Cond.code yX7_putsOn cX7_putsOn 5 none, Cond.methodLink RX7 175 yX7_upTo]
def wsX7_best_r5 : List Cond := [Cond.instanceMethod yX7_upTo, Cond.selects RX7 yX7_upTo yX7_upTo, Cond.code yX7_upTo cX7_upTo 4 (some .int), Cond.methodLink RX7 172 yX7_cupsBy, Cond.instanceMethod yX7_cupsBy, Cond.selects RX7 yX7_cupsBy yX7_cupsBy, Cond.code yX7_cupsBy cX7_cupsBy 3 (some .int), Cond.methodLink RX7 166 yX7_wantsInLine, Cond.instanceMethod yX7_wantsInLine, Cond.selects RX7 yX7_wantsInLine yX7_wantsInLine, Cond.code yX7_wantsInLine cX7_wantsInLine 3 (some .int), Cond.methodLink RX7 169 yX7_wantsSoon, Cond.instanceMethod yX7_wantsSoon, Cond.selects RX7 yX7_wantsSoon yX7_wantsSoon, Cond.code yX7_wantsSoon cX7_wantsSoon 4 (some .int), Cond.methodLink RX7 178 yX7_boilTime, Cond.instanceMethod yX7_boilTime, Cond.selects RX7 yX7_boilTime yX7_boilTime, Cond.code yX7_boilTime cX7_boilTime 4 (some .int), Cond.methodLink RX7 204 yX7_cools, Cond.instanceMethod yX7_cools, Cond.selects RX7 yX7_cools yX7_cools, Cond.code yX7_cools cX7_cools 2 none, Cond.methodLink RX7 225 yX7_costNow]
def wsX7_best_r6 : List Cond := [Cond.instanceMethod yX7_costNow, Cond.selects RX7 yX7_costNow yX7_costNow, Cond.code yX7_costNow cX7_costNow 1 (some .int), Cond.methodLink RX7 213 yX7_waitedAll, Cond.instanceMethod yX7_waitedAll, Cond.selects RX7 yX7_waitedAll yX7_waitedAll, Cond.code yX7_waitedAll cX7_waitedAll 3 (some .int), Cond.methodLink RX7 216 yX7_stateMany, Cond.instanceMethod yX7_stateMany, Cond.selects RX7 yX7_stateMany yX7_stateMany, Cond.code yX7_stateMany cX7_stateMany 4 (some .int)]
def wsX7_best : List Cond := .code yX7_best cX7_best 4 (some .int) :: ((wsX7_best_r1 ++ (wsX7_best_r2 ++ (wsX7_best_r3 ++ (wsX7_best_r4 ++ (wsX7_best_r5 ++ wsX7_best_r6))))) ++ wsX70)
def wsX7_goesRounds_r1 : List Cond := [Cond.fieldLink RX7 77 "FilledForOneModel" "comers" "I", Cond.fieldLink RX7 16 "FilledForOneModel" "kind" "[I", Cond.methodLink RX7 231 yX7_bestKind, Cond.instanceMethod yX7_bestKind, Cond.selects RX7 yX7_bestKind yX7_bestKind, Cond.initialized RX7, Cond.code yX7_bestKind cX7_bestKind 8 (some .int), Cond.constant RX7 76 (1000000000), Cond.fieldLink RX7 31 "FilledForOneModel" "state" "[I", Cond.fieldLink RX7 34 "FilledForOneModel" "waited" "[I", Cond.methodLink RX7 228 yX7_costAnew, Cond.instanceMethod yX7_costAnew, Cond.selects RX7 yX7_costAnew yX7_costAnew, Cond.code yX7_costAnew cX7_costAnew 1 (some .int), Cond.methodLink RX7 219 yX7_begins, Cond.instanceMethod yX7_begins, Cond.selects RX7 yX7_begins yX7_begins, Cond.code yX7_begins cX7_begins 2 none, Cond.fieldLink RX7 122 "FilledForOneModel" "minute" "I", Cond.fieldLink RX7 160 "FilledForOneModel" "lineMany" "I", Cond.fieldLink RX7 40 "FilledForOneModel" "level" "[I", Cond.fieldLink RX7 43 "FilledForOneModel" "warmth" "[I", Cond.fieldLink RX7 46 "FilledForOneModel" "age" "[I", Cond.fieldLink RX7 49 "FilledForOneModel" "busyTill" "[I"]
def wsX7_goesRounds_r2 : List Cond := [Cond.fieldLink RX7 52 "FilledForOneModel" "putBy" "[I", Cond.methodLink RX7 222 yX7_goesToEnd, Cond.instanceMethod yX7_goesToEnd, Cond.selects RX7 yX7_goesToEnd yX7_goesToEnd, Cond.code yX7_goesToEnd cX7_goesToEnd 1 none, Cond.fieldLink RX7 181 "FilledForOneModel" "putOn" "I", Cond.methodLink RX7 207 yX7_isOver, Cond.instanceMethod yX7_isOver, Cond.selects RX7 yX7_isOver yX7_isOver, Cond.code yX7_isOver cX7_isOver 2 (some .boolean), Cond.methodLink RX7 184 yX7_isFree, Cond.instanceMethod yX7_isFree, Cond.selects RX7 yX7_isFree yX7_isFree, Cond.code yX7_isFree cX7_isFree 2 (some .boolean), Cond.methodLink RX7 210 yX7_goesMinute, Cond.instanceMethod yX7_goesMinute, Cond.selects RX7 yX7_goesMinute yX7_goesMinute, Cond.code yX7_goesMinute cX7_goesMinute 3 none, Cond.fieldLink RX7 22 "FilledForOneModel" "comes" "[I", Cond.fieldLink RX7 37 "FilledForOneModel" "line" "[I", Cond.fieldLink RX7 28 "FilledForOneModel" "patience" "[I", Cond.methodLink RX7 197 yX7_leaves, Cond.instanceMethod yX7_leaves, Cond.selects RX7 yX7_leaves yX7_leaves]
def wsX7_goesRounds_r3 : List Cond := [Cond.code yX7_leaves cX7_leaves 3 none, Cond.methodLink RX7 201 yX7_isServed, Cond.instanceMethod yX7_isServed, Cond.selects RX7 yX7_isServed yX7_isServed, Cond.code yX7_isServed cX7_isServed 3 (some .boolean), Cond.fieldLink RX7 25 "FilledForOneModel" "wants" "[I", Cond.methodLink RX7 187 yX7_hotFor, Cond.instanceMethod yX7_hotFor, Cond.selects RX7 yX7_hotFor yX7_hotFor, Cond.code yX7_hotFor cX7_hotFor 3 (some .int), Cond.fieldLink RX7 13 "FilledForOneModel" "setting" "[I", Cond.methodLink RX7 190 yX7_freeFor, Cond.instanceMethod yX7_freeFor, Cond.selects RX7 yX7_freeFor yX7_freeFor, Cond.code yX7_freeFor cX7_freeFor 4 (some .int), Cond.methodLink RX7 193 yX7_putsOn, Cond.instanceMethod yX7_putsOn, Cond.selects RX7 yX7_putsOn yX7_putsOn, Cond.code yX7_putsOn cX7_putsOn 5 none, Cond.methodLink RX7 175 yX7_upTo, Cond.instanceMethod yX7_upTo, Cond.selects RX7 yX7_upTo yX7_upTo, Cond.code yX7_upTo cX7_upTo 4 (some .int), Cond.methodLink RX7 172 yX7_cupsBy]
def wsX7_goesRounds_r4 : List Cond := [Cond.instanceMethod yX7_cupsBy, Cond.selects RX7 yX7_cupsBy yX7_cupsBy, Cond.code yX7_cupsBy cX7_cupsBy 3 (some .int), Cond.fieldLink RX7 19 "FilledForOneModel" "figure" "[I", Cond.methodLink RX7 166 yX7_wantsInLine, Cond.instanceMethod yX7_wantsInLine, Cond.selects RX7 yX7_wantsInLine yX7_wantsInLine, Cond.code yX7_wantsInLine cX7_wantsInLine 3 (some .int), Cond.methodLink RX7 169 yX7_wantsSoon, Cond.instanceMethod yX7_wantsSoon, Cond.selects RX7 yX7_wantsSoon yX7_wantsSoon, Cond.code yX7_wantsSoon cX7_wantsSoon 4 (some .int), Cond.methodLink RX7 178 yX7_boilTime, Cond.instanceMethod yX7_boilTime, Cond.selects RX7 yX7_boilTime yX7_boilTime, Cond.code yX7_boilTime cX7_boilTime 4 (some .int), Cond.methodLink RX7 204 yX7_cools, Cond.instanceMethod yX7_cools, Cond.selects RX7 yX7_cools yX7_cools, Cond.code yX7_cools cX7_cools 2 none, Cond.methodLink RX7 225 yX7_costNow, Cond.instanceMethod yX7_costNow, Cond.selects RX7 yX7_costNow yX7_costNow, Cond.code yX7_costNow cX7_costNow 1 (some .int)]
def wsX7_goesRounds_r5 : List Cond := [Cond.methodLink RX7 213 yX7_waitedAll, Cond.instanceMethod yX7_waitedAll, Cond.selects RX7 yX7_waitedAll yX7_waitedAll, Cond.code yX7_waitedAll cX7_waitedAll 3 (some .int), Cond.methodLink RX7 216 yX7_stateMany, Cond.instanceMethod yX7_stateMany, Cond.selects RX7 yX7_stateMany yX7_stateMany, Cond.code yX7_stateMany cX7_stateMany 4 (some .int)]
def wsX7_goesRounds : List Cond := .code yX7_goesRounds cX7_goesRounds 5 (some .int) :: ((wsX7_goesRounds_r1 ++ (wsX7_goesRounds_r2 ++ (wsX7_goesRounds_r3 ++ (wsX7_goesRounds_r4 ++ wsX7_goesRounds_r5)))) ++ wsX70)
def wsX7_kindsDigits : List Cond := .code yX7_kindsDigits cX7_kindsDigits 3 (some .int) :: ([.fieldLink RX7 77 "FilledForOneModel" "comers" "I", .fieldLink RX7 16 "FilledForOneModel" "kind" "[I"] ++ wsX70)
def wsX7_leastOfOneKind_r1 : List Cond := [Cond.constant RX7 76 (1000000000), Cond.fieldLink RX7 77 "FilledForOneModel" "comers" "I", Cond.fieldLink RX7 16 "FilledForOneModel" "kind" "[I", Cond.methodLink RX7 228 yX7_costAnew, Cond.instanceMethod yX7_costAnew, Cond.selects RX7 yX7_costAnew yX7_costAnew, Cond.initialized RX7, Cond.code yX7_costAnew cX7_costAnew 1 (some .int), Cond.methodLink RX7 219 yX7_begins, Cond.instanceMethod yX7_begins, Cond.selects RX7 yX7_begins yX7_begins, Cond.code yX7_begins cX7_begins 2 none, Cond.fieldLink RX7 122 "FilledForOneModel" "minute" "I", Cond.fieldLink RX7 160 "FilledForOneModel" "lineMany" "I", Cond.fieldLink RX7 31 "FilledForOneModel" "state" "[I", Cond.fieldLink RX7 34 "FilledForOneModel" "waited" "[I", Cond.fieldLink RX7 40 "FilledForOneModel" "level" "[I", Cond.fieldLink RX7 43 "FilledForOneModel" "warmth" "[I", Cond.fieldLink RX7 46 "FilledForOneModel" "age" "[I", Cond.fieldLink RX7 49 "FilledForOneModel" "busyTill" "[I", Cond.fieldLink RX7 52 "FilledForOneModel" "putBy" "[I", Cond.methodLink RX7 222 yX7_goesToEnd, Cond.instanceMethod yX7_goesToEnd, Cond.selects RX7 yX7_goesToEnd yX7_goesToEnd]
def wsX7_leastOfOneKind_r2 : List Cond := [Cond.code yX7_goesToEnd cX7_goesToEnd 1 none, Cond.fieldLink RX7 181 "FilledForOneModel" "putOn" "I", Cond.methodLink RX7 207 yX7_isOver, Cond.instanceMethod yX7_isOver, Cond.selects RX7 yX7_isOver yX7_isOver, Cond.code yX7_isOver cX7_isOver 2 (some .boolean), Cond.methodLink RX7 184 yX7_isFree, Cond.instanceMethod yX7_isFree, Cond.selects RX7 yX7_isFree yX7_isFree, Cond.code yX7_isFree cX7_isFree 2 (some .boolean), Cond.methodLink RX7 210 yX7_goesMinute, Cond.instanceMethod yX7_goesMinute, Cond.selects RX7 yX7_goesMinute yX7_goesMinute, Cond.code yX7_goesMinute cX7_goesMinute 3 none, Cond.fieldLink RX7 22 "FilledForOneModel" "comes" "[I", Cond.fieldLink RX7 37 "FilledForOneModel" "line" "[I", Cond.fieldLink RX7 28 "FilledForOneModel" "patience" "[I", Cond.methodLink RX7 197 yX7_leaves, Cond.instanceMethod yX7_leaves, Cond.selects RX7 yX7_leaves yX7_leaves, Cond.code yX7_leaves cX7_leaves 3 none, Cond.methodLink RX7 201 yX7_isServed, Cond.instanceMethod yX7_isServed, Cond.selects RX7 yX7_isServed yX7_isServed]
def wsX7_leastOfOneKind_r3 : List Cond := [Cond.code yX7_isServed cX7_isServed 3 (some .boolean), Cond.fieldLink RX7 25 "FilledForOneModel" "wants" "[I", Cond.methodLink RX7 187 yX7_hotFor, Cond.instanceMethod yX7_hotFor, Cond.selects RX7 yX7_hotFor yX7_hotFor, Cond.code yX7_hotFor cX7_hotFor 3 (some .int), Cond.fieldLink RX7 13 "FilledForOneModel" "setting" "[I", Cond.methodLink RX7 190 yX7_freeFor, Cond.instanceMethod yX7_freeFor, Cond.selects RX7 yX7_freeFor yX7_freeFor, Cond.code yX7_freeFor cX7_freeFor 4 (some .int), Cond.methodLink RX7 193 yX7_putsOn, Cond.instanceMethod yX7_putsOn, Cond.selects RX7 yX7_putsOn yX7_putsOn, Cond.code yX7_putsOn cX7_putsOn 5 none, Cond.methodLink RX7 175 yX7_upTo, Cond.instanceMethod yX7_upTo, Cond.selects RX7 yX7_upTo yX7_upTo, Cond.code yX7_upTo cX7_upTo 4 (some .int), Cond.methodLink RX7 172 yX7_cupsBy, Cond.instanceMethod yX7_cupsBy, Cond.selects RX7 yX7_cupsBy yX7_cupsBy, Cond.code yX7_cupsBy cX7_cupsBy 3 (some .int), Cond.fieldLink RX7 19 "FilledForOneModel" "figure" "[I"]
def wsX7_leastOfOneKind_r4 : List Cond := [Cond.methodLink RX7 166 yX7_wantsInLine, Cond.instanceMethod yX7_wantsInLine, Cond.selects RX7 yX7_wantsInLine yX7_wantsInLine, Cond.code yX7_wantsInLine cX7_wantsInLine 3 (some .int), Cond.methodLink RX7 169 yX7_wantsSoon, Cond.instanceMethod yX7_wantsSoon, Cond.selects RX7 yX7_wantsSoon yX7_wantsSoon, Cond.code yX7_wantsSoon cX7_wantsSoon 4 (some .int), Cond.methodLink RX7 178 yX7_boilTime, Cond.instanceMethod yX7_boilTime, Cond.selects RX7 yX7_boilTime yX7_boilTime, Cond.code yX7_boilTime cX7_boilTime 4 (some .int), Cond.methodLink RX7 204 yX7_cools, Cond.instanceMethod yX7_cools, Cond.selects RX7 yX7_cools yX7_cools, Cond.code yX7_cools cX7_cools 2 none, Cond.methodLink RX7 225 yX7_costNow, Cond.instanceMethod yX7_costNow, Cond.selects RX7 yX7_costNow yX7_costNow, Cond.code yX7_costNow cX7_costNow 1 (some .int), Cond.methodLink RX7 213 yX7_waitedAll, Cond.instanceMethod yX7_waitedAll, Cond.selects RX7 yX7_waitedAll yX7_waitedAll, Cond.code yX7_waitedAll cX7_waitedAll 3 (some .int)]
def wsX7_leastOfOneKind_r5 : List Cond := [Cond.methodLink RX7 216 yX7_stateMany, Cond.instanceMethod yX7_stateMany, Cond.selects RX7 yX7_stateMany yX7_stateMany, Cond.code yX7_stateMany cX7_stateMany 4 (some .int)]
def wsX7_leastOfOneKind : List Cond := .code yX7_leastOfOneKind cX7_leastOfOneKind 4 (some .int) :: ((wsX7_leastOfOneKind_r1 ++ (wsX7_leastOfOneKind_r2 ++ (wsX7_leastOfOneKind_r3 ++ (wsX7_leastOfOneKind_r4 ++ wsX7_leastOfOneKind_r5)))) ++ wsX70)
def wsX7_rounds_r1 : List Cond := [Cond.methodLink RX7 99 yX7_isIn, Cond.static yX7_isIn, Cond.initialized RX7, Cond.code yX7_isIn cX7_isIn 3 (some .boolean), Cond.methodLink RX7 234 yX7_lower, Cond.instanceMethod yX7_lower, Cond.selects RX7 yX7_lower yX7_lower, Cond.code yX7_lower cX7_lower 2 (some .int), Cond.fieldLink RX7 7 "FilledForOneModel" "refused" "[I", Cond.constant RX7 76 (1000000000), Cond.methodLink RX7 139 yX7_passesAll, Cond.instanceMethod yX7_passesAll, Cond.selects RX7 yX7_passesAll yX7_passesAll, Cond.code yX7_passesAll cX7_passesAll 3 none, Cond.fieldLink RX7 150 "FilledForOneModel" "cursor" "I", Cond.fieldLink RX7 146 "FilledForOneModel" "isKeeping" "Z", Cond.fieldLink RX7 13 "FilledForOneModel" "setting" "[I", Cond.fieldLink RX7 16 "FilledForOneModel" "kind" "[I", Cond.fieldLink RX7 19 "FilledForOneModel" "figure" "[I", Cond.fieldLink RX7 22 "FilledForOneModel" "comes" "[I", Cond.fieldLink RX7 25 "FilledForOneModel" "wants" "[I", Cond.fieldLink RX7 28 "FilledForOneModel" "patience" "[I", Cond.fieldLink RX7 31 "FilledForOneModel" "state" "[I", Cond.fieldLink RX7 34 "FilledForOneModel" "waited" "[I"]
def wsX7_rounds_r2 : List Cond := [Cond.fieldLink RX7 37 "FilledForOneModel" "line" "[I", Cond.fieldLink RX7 40 "FilledForOneModel" "level" "[I", Cond.fieldLink RX7 43 "FilledForOneModel" "warmth" "[I", Cond.fieldLink RX7 46 "FilledForOneModel" "age" "[I", Cond.fieldLink RX7 49 "FilledForOneModel" "busyTill" "[I", Cond.fieldLink RX7 52 "FilledForOneModel" "putBy" "[I", Cond.fieldLink RX7 77 "FilledForOneModel" "comers" "I", Cond.fieldLink RX7 122 "FilledForOneModel" "minute" "I", Cond.fieldLink RX7 160 "FilledForOneModel" "lineMany" "I", Cond.methodLink RX7 153 yX7_passes, Cond.instanceMethod yX7_passes, Cond.selects RX7 yX7_passes yX7_passes, Cond.code yX7_passes cX7_passes 3 none, Cond.fieldLink RX7 67 "FilledForOneModel" "kept" "[I", Cond.methodLink RX7 157 yX7_passOne, Cond.instanceMethod yX7_passOne, Cond.selects RX7 yX7_passOne yX7_passOne, Cond.code yX7_passOne cX7_passOne 3 (some .int), Cond.methodLink RX7 237 yX7_goesRounds, Cond.instanceMethod yX7_goesRounds, Cond.selects RX7 yX7_goesRounds yX7_goesRounds, Cond.code yX7_goesRounds cX7_goesRounds 5 (some .int), Cond.methodLink RX7 231 yX7_bestKind, Cond.instanceMethod yX7_bestKind]
def wsX7_rounds_r3 : List Cond := [Cond.selects RX7 yX7_bestKind yX7_bestKind, Cond.code yX7_bestKind cX7_bestKind 8 (some .int), Cond.methodLink RX7 228 yX7_costAnew, Cond.instanceMethod yX7_costAnew, Cond.selects RX7 yX7_costAnew yX7_costAnew, Cond.code yX7_costAnew cX7_costAnew 1 (some .int), Cond.methodLink RX7 219 yX7_begins, Cond.instanceMethod yX7_begins, Cond.selects RX7 yX7_begins yX7_begins, Cond.code yX7_begins cX7_begins 2 none, Cond.methodLink RX7 222 yX7_goesToEnd, Cond.instanceMethod yX7_goesToEnd, Cond.selects RX7 yX7_goesToEnd yX7_goesToEnd, Cond.code yX7_goesToEnd cX7_goesToEnd 1 none, Cond.fieldLink RX7 181 "FilledForOneModel" "putOn" "I", Cond.methodLink RX7 207 yX7_isOver, Cond.instanceMethod yX7_isOver, Cond.selects RX7 yX7_isOver yX7_isOver, Cond.code yX7_isOver cX7_isOver 2 (some .boolean), Cond.methodLink RX7 184 yX7_isFree, Cond.instanceMethod yX7_isFree, Cond.selects RX7 yX7_isFree yX7_isFree, Cond.code yX7_isFree cX7_isFree 2 (some .boolean), Cond.methodLink RX7 210 yX7_goesMinute]
def wsX7_rounds_r4 : List Cond := [Cond.instanceMethod yX7_goesMinute, Cond.selects RX7 yX7_goesMinute yX7_goesMinute, Cond.code yX7_goesMinute cX7_goesMinute 3 none, Cond.methodLink RX7 197 yX7_leaves, Cond.instanceMethod yX7_leaves, Cond.selects RX7 yX7_leaves yX7_leaves, Cond.code yX7_leaves cX7_leaves 3 none, Cond.methodLink RX7 201 yX7_isServed, Cond.instanceMethod yX7_isServed, Cond.selects RX7 yX7_isServed yX7_isServed, Cond.code yX7_isServed cX7_isServed 3 (some .boolean), Cond.methodLink RX7 187 yX7_hotFor, Cond.instanceMethod yX7_hotFor, Cond.selects RX7 yX7_hotFor yX7_hotFor, Cond.code yX7_hotFor cX7_hotFor 3 (some .int), Cond.methodLink RX7 190 yX7_freeFor, Cond.instanceMethod yX7_freeFor, Cond.selects RX7 yX7_freeFor yX7_freeFor, Cond.code yX7_freeFor cX7_freeFor 4 (some .int), Cond.methodLink RX7 193 yX7_putsOn, Cond.instanceMethod yX7_putsOn, Cond.selects RX7 yX7_putsOn yX7_putsOn, Cond.code yX7_putsOn cX7_putsOn 5 none, Cond.methodLink RX7 175 yX7_upTo]
def wsX7_rounds_r5 : List Cond := [Cond.instanceMethod yX7_upTo, Cond.selects RX7 yX7_upTo yX7_upTo, Cond.code yX7_upTo cX7_upTo 4 (some .int), Cond.methodLink RX7 172 yX7_cupsBy, Cond.instanceMethod yX7_cupsBy, Cond.selects RX7 yX7_cupsBy yX7_cupsBy, Cond.code yX7_cupsBy cX7_cupsBy 3 (some .int), Cond.methodLink RX7 166 yX7_wantsInLine, Cond.instanceMethod yX7_wantsInLine, Cond.selects RX7 yX7_wantsInLine yX7_wantsInLine, Cond.code yX7_wantsInLine cX7_wantsInLine 3 (some .int), Cond.methodLink RX7 169 yX7_wantsSoon, Cond.instanceMethod yX7_wantsSoon, Cond.selects RX7 yX7_wantsSoon yX7_wantsSoon, Cond.code yX7_wantsSoon cX7_wantsSoon 4 (some .int), Cond.methodLink RX7 178 yX7_boilTime, Cond.instanceMethod yX7_boilTime, Cond.selects RX7 yX7_boilTime yX7_boilTime, Cond.code yX7_boilTime cX7_boilTime 4 (some .int), Cond.methodLink RX7 204 yX7_cools, Cond.instanceMethod yX7_cools, Cond.selects RX7 yX7_cools yX7_cools, Cond.code yX7_cools cX7_cools 2 none, Cond.methodLink RX7 225 yX7_costNow]
def wsX7_rounds_r6 : List Cond := [Cond.instanceMethod yX7_costNow, Cond.selects RX7 yX7_costNow yX7_costNow, Cond.code yX7_costNow cX7_costNow 1 (some .int), Cond.methodLink RX7 213 yX7_waitedAll, Cond.instanceMethod yX7_waitedAll, Cond.selects RX7 yX7_waitedAll yX7_waitedAll, Cond.code yX7_waitedAll cX7_waitedAll 3 (some .int), Cond.methodLink RX7 216 yX7_stateMany, Cond.instanceMethod yX7_stateMany, Cond.selects RX7 yX7_stateMany yX7_stateMany, Cond.code yX7_stateMany cX7_stateMany 4 (some .int), Cond.methodLink RX7 240 yX7_kindsDigits, Cond.instanceMethod yX7_kindsDigits, Cond.selects RX7 yX7_kindsDigits yX7_kindsDigits, Cond.code yX7_kindsDigits cX7_kindsDigits 3 (some .int), Cond.methodLink RX7 243 yX7_leastOfOneKind, Cond.instanceMethod yX7_leastOfOneKind, Cond.selects RX7 yX7_leastOfOneKind yX7_leastOfOneKind, Cond.code yX7_leastOfOneKind cX7_leastOfOneKind 4 (some .int)]
def wsX7_rounds : List Cond := .code yX7_rounds cX7_rounds 3 (some .int) :: ((wsX7_rounds_r1 ++ (wsX7_rounds_r2 ++ (wsX7_rounds_r3 ++ (wsX7_rounds_r4 ++ (wsX7_rounds_r5 ++ wsX7_rounds_r6))))) ++ wsX70)
def wsX7_marks_r1 : List Cond := [Cond.constant RX7 76 (1000000000), Cond.fieldLink RX7 13 "FilledForOneModel" "setting" "[I", Cond.methodLink RX7 99 yX7_isIn, Cond.static yX7_isIn, Cond.initialized RX7, Cond.code yX7_isIn cX7_isIn 3 (some .boolean), Cond.methodLink RX7 88 yX7_no, Cond.instanceMethod yX7_no, Cond.selects RX7 yX7_no yX7_no, Cond.code yX7_no cX7_no 2 (some .int), Cond.fieldLink RX7 7 "FilledForOneModel" "refused" "[I", Cond.methodLink RX7 139 yX7_passesAll, Cond.instanceMethod yX7_passesAll, Cond.selects RX7 yX7_passesAll yX7_passesAll, Cond.code yX7_passesAll cX7_passesAll 3 none, Cond.fieldLink RX7 150 "FilledForOneModel" "cursor" "I", Cond.fieldLink RX7 146 "FilledForOneModel" "isKeeping" "Z", Cond.fieldLink RX7 16 "FilledForOneModel" "kind" "[I", Cond.fieldLink RX7 19 "FilledForOneModel" "figure" "[I", Cond.fieldLink RX7 22 "FilledForOneModel" "comes" "[I", Cond.fieldLink RX7 25 "FilledForOneModel" "wants" "[I", Cond.fieldLink RX7 28 "FilledForOneModel" "patience" "[I", Cond.fieldLink RX7 31 "FilledForOneModel" "state" "[I", Cond.fieldLink RX7 34 "FilledForOneModel" "waited" "[I"]
def wsX7_marks_r2 : List Cond := [Cond.fieldLink RX7 37 "FilledForOneModel" "line" "[I", Cond.fieldLink RX7 40 "FilledForOneModel" "level" "[I", Cond.fieldLink RX7 43 "FilledForOneModel" "warmth" "[I", Cond.fieldLink RX7 46 "FilledForOneModel" "age" "[I", Cond.fieldLink RX7 49 "FilledForOneModel" "busyTill" "[I", Cond.fieldLink RX7 52 "FilledForOneModel" "putBy" "[I", Cond.fieldLink RX7 77 "FilledForOneModel" "comers" "I", Cond.fieldLink RX7 122 "FilledForOneModel" "minute" "I", Cond.fieldLink RX7 160 "FilledForOneModel" "lineMany" "I", Cond.methodLink RX7 153 yX7_passes, Cond.instanceMethod yX7_passes, Cond.selects RX7 yX7_passes yX7_passes, Cond.code yX7_passes cX7_passes 3 none, Cond.fieldLink RX7 67 "FilledForOneModel" "kept" "[I", Cond.methodLink RX7 157 yX7_passOne, Cond.instanceMethod yX7_passOne, Cond.selects RX7 yX7_passOne yX7_passOne, Cond.code yX7_passOne cX7_passOne 3 (some .int), Cond.methodLink RX7 228 yX7_costAnew, Cond.instanceMethod yX7_costAnew, Cond.selects RX7 yX7_costAnew yX7_costAnew, Cond.code yX7_costAnew cX7_costAnew 1 (some .int), Cond.methodLink RX7 219 yX7_begins, Cond.instanceMethod yX7_begins]
def wsX7_marks_r3 : List Cond := [Cond.selects RX7 yX7_begins yX7_begins, Cond.code yX7_begins cX7_begins 2 none, Cond.methodLink RX7 222 yX7_goesToEnd, Cond.instanceMethod yX7_goesToEnd, Cond.selects RX7 yX7_goesToEnd yX7_goesToEnd, Cond.code yX7_goesToEnd cX7_goesToEnd 1 none, Cond.fieldLink RX7 181 "FilledForOneModel" "putOn" "I", Cond.methodLink RX7 207 yX7_isOver, Cond.instanceMethod yX7_isOver, Cond.selects RX7 yX7_isOver yX7_isOver, Cond.code yX7_isOver cX7_isOver 2 (some .boolean), Cond.methodLink RX7 184 yX7_isFree, Cond.instanceMethod yX7_isFree, Cond.selects RX7 yX7_isFree yX7_isFree, Cond.code yX7_isFree cX7_isFree 2 (some .boolean), Cond.methodLink RX7 210 yX7_goesMinute, Cond.instanceMethod yX7_goesMinute, Cond.selects RX7 yX7_goesMinute yX7_goesMinute, Cond.code yX7_goesMinute cX7_goesMinute 3 none, Cond.methodLink RX7 197 yX7_leaves, Cond.instanceMethod yX7_leaves, Cond.selects RX7 yX7_leaves yX7_leaves, Cond.code yX7_leaves cX7_leaves 3 none, Cond.methodLink RX7 201 yX7_isServed]
def wsX7_marks_r4 : List Cond := [Cond.instanceMethod yX7_isServed, Cond.selects RX7 yX7_isServed yX7_isServed, Cond.code yX7_isServed cX7_isServed 3 (some .boolean), Cond.methodLink RX7 187 yX7_hotFor, Cond.instanceMethod yX7_hotFor, Cond.selects RX7 yX7_hotFor yX7_hotFor, Cond.code yX7_hotFor cX7_hotFor 3 (some .int), Cond.methodLink RX7 190 yX7_freeFor, Cond.instanceMethod yX7_freeFor, Cond.selects RX7 yX7_freeFor yX7_freeFor, Cond.code yX7_freeFor cX7_freeFor 4 (some .int), Cond.methodLink RX7 193 yX7_putsOn, Cond.instanceMethod yX7_putsOn, Cond.selects RX7 yX7_putsOn yX7_putsOn, Cond.code yX7_putsOn cX7_putsOn 5 none, Cond.methodLink RX7 175 yX7_upTo, Cond.instanceMethod yX7_upTo, Cond.selects RX7 yX7_upTo yX7_upTo, Cond.code yX7_upTo cX7_upTo 4 (some .int), Cond.methodLink RX7 172 yX7_cupsBy, Cond.instanceMethod yX7_cupsBy, Cond.selects RX7 yX7_cupsBy yX7_cupsBy, Cond.code yX7_cupsBy cX7_cupsBy 3 (some .int), Cond.methodLink RX7 166 yX7_wantsInLine]
def wsX7_marks_r5 : List Cond := [Cond.instanceMethod yX7_wantsInLine, Cond.selects RX7 yX7_wantsInLine yX7_wantsInLine, Cond.code yX7_wantsInLine cX7_wantsInLine 3 (some .int), Cond.methodLink RX7 169 yX7_wantsSoon, Cond.instanceMethod yX7_wantsSoon, Cond.selects RX7 yX7_wantsSoon yX7_wantsSoon, Cond.code yX7_wantsSoon cX7_wantsSoon 4 (some .int), Cond.methodLink RX7 178 yX7_boilTime, Cond.instanceMethod yX7_boilTime, Cond.selects RX7 yX7_boilTime yX7_boilTime, Cond.code yX7_boilTime cX7_boilTime 4 (some .int), Cond.methodLink RX7 204 yX7_cools, Cond.instanceMethod yX7_cools, Cond.selects RX7 yX7_cools yX7_cools, Cond.code yX7_cools cX7_cools 2 none, Cond.methodLink RX7 225 yX7_costNow, Cond.instanceMethod yX7_costNow, Cond.selects RX7 yX7_costNow yX7_costNow, Cond.code yX7_costNow cX7_costNow 1 (some .int), Cond.methodLink RX7 213 yX7_waitedAll, Cond.instanceMethod yX7_waitedAll, Cond.selects RX7 yX7_waitedAll yX7_waitedAll, Cond.code yX7_waitedAll cX7_waitedAll 3 (some .int), Cond.methodLink RX7 216 yX7_stateMany]
def wsX7_marks_r6 : List Cond := [Cond.instanceMethod yX7_stateMany, Cond.selects RX7 yX7_stateMany yX7_stateMany, Cond.code yX7_stateMany cX7_stateMany 4 (some .int)]
def wsX7_marks : List Cond := .code yX7_marks cX7_marks 6 (some .int) :: ((wsX7_marks_r1 ++ (wsX7_marks_r2 ++ (wsX7_marks_r3 ++ (wsX7_marks_r4 ++ (wsX7_marks_r5 ++ wsX7_marks_r6))))) ++ wsX70)
def wsX7_second_r1 : List Cond := [Cond.fieldLink RX7 13 "FilledForOneModel" "setting" "[I", Cond.methodLink RX7 139 yX7_passesAll, Cond.instanceMethod yX7_passesAll, Cond.selects RX7 yX7_passesAll yX7_passesAll, Cond.initialized RX7, Cond.code yX7_passesAll cX7_passesAll 3 none, Cond.fieldLink RX7 150 "FilledForOneModel" "cursor" "I", Cond.fieldLink RX7 146 "FilledForOneModel" "isKeeping" "Z", Cond.fieldLink RX7 16 "FilledForOneModel" "kind" "[I", Cond.fieldLink RX7 19 "FilledForOneModel" "figure" "[I", Cond.fieldLink RX7 22 "FilledForOneModel" "comes" "[I", Cond.fieldLink RX7 25 "FilledForOneModel" "wants" "[I", Cond.fieldLink RX7 28 "FilledForOneModel" "patience" "[I", Cond.fieldLink RX7 31 "FilledForOneModel" "state" "[I", Cond.fieldLink RX7 34 "FilledForOneModel" "waited" "[I", Cond.fieldLink RX7 37 "FilledForOneModel" "line" "[I", Cond.fieldLink RX7 40 "FilledForOneModel" "level" "[I", Cond.fieldLink RX7 43 "FilledForOneModel" "warmth" "[I", Cond.fieldLink RX7 46 "FilledForOneModel" "age" "[I", Cond.fieldLink RX7 49 "FilledForOneModel" "busyTill" "[I", Cond.fieldLink RX7 52 "FilledForOneModel" "putBy" "[I", Cond.fieldLink RX7 77 "FilledForOneModel" "comers" "I", Cond.fieldLink RX7 122 "FilledForOneModel" "minute" "I", Cond.fieldLink RX7 160 "FilledForOneModel" "lineMany" "I"]
def wsX7_second_r2 : List Cond := [Cond.methodLink RX7 153 yX7_passes, Cond.instanceMethod yX7_passes, Cond.selects RX7 yX7_passes yX7_passes, Cond.code yX7_passes cX7_passes 3 none, Cond.fieldLink RX7 67 "FilledForOneModel" "kept" "[I", Cond.methodLink RX7 157 yX7_passOne, Cond.instanceMethod yX7_passOne, Cond.selects RX7 yX7_passOne yX7_passOne, Cond.code yX7_passOne cX7_passOne 3 (some .int), Cond.methodLink RX7 228 yX7_costAnew, Cond.instanceMethod yX7_costAnew, Cond.selects RX7 yX7_costAnew yX7_costAnew, Cond.code yX7_costAnew cX7_costAnew 1 (some .int), Cond.methodLink RX7 219 yX7_begins, Cond.instanceMethod yX7_begins, Cond.selects RX7 yX7_begins yX7_begins, Cond.code yX7_begins cX7_begins 2 none, Cond.methodLink RX7 222 yX7_goesToEnd, Cond.instanceMethod yX7_goesToEnd, Cond.selects RX7 yX7_goesToEnd yX7_goesToEnd, Cond.code yX7_goesToEnd cX7_goesToEnd 1 none, Cond.fieldLink RX7 181 "FilledForOneModel" "putOn" "I", Cond.methodLink RX7 207 yX7_isOver, Cond.instanceMethod yX7_isOver]
def wsX7_second_r3 : List Cond := [Cond.selects RX7 yX7_isOver yX7_isOver, Cond.code yX7_isOver cX7_isOver 2 (some .boolean), Cond.methodLink RX7 184 yX7_isFree, Cond.instanceMethod yX7_isFree, Cond.selects RX7 yX7_isFree yX7_isFree, Cond.code yX7_isFree cX7_isFree 2 (some .boolean), Cond.methodLink RX7 210 yX7_goesMinute, Cond.instanceMethod yX7_goesMinute, Cond.selects RX7 yX7_goesMinute yX7_goesMinute, Cond.code yX7_goesMinute cX7_goesMinute 3 none, Cond.methodLink RX7 197 yX7_leaves, Cond.instanceMethod yX7_leaves, Cond.selects RX7 yX7_leaves yX7_leaves, Cond.code yX7_leaves cX7_leaves 3 none, Cond.methodLink RX7 201 yX7_isServed, Cond.instanceMethod yX7_isServed, Cond.selects RX7 yX7_isServed yX7_isServed, Cond.code yX7_isServed cX7_isServed 3 (some .boolean), Cond.methodLink RX7 187 yX7_hotFor, Cond.instanceMethod yX7_hotFor, Cond.selects RX7 yX7_hotFor yX7_hotFor, Cond.code yX7_hotFor cX7_hotFor 3 (some .int), Cond.methodLink RX7 190 yX7_freeFor, Cond.instanceMethod yX7_freeFor]
def wsX7_second_r4 : List Cond := [Cond.selects RX7 yX7_freeFor yX7_freeFor, Cond.code yX7_freeFor cX7_freeFor 4 (some .int), Cond.methodLink RX7 193 yX7_putsOn, Cond.instanceMethod yX7_putsOn, Cond.selects RX7 yX7_putsOn yX7_putsOn, Cond.code yX7_putsOn cX7_putsOn 5 none, Cond.methodLink RX7 175 yX7_upTo, Cond.instanceMethod yX7_upTo, Cond.selects RX7 yX7_upTo yX7_upTo, Cond.code yX7_upTo cX7_upTo 4 (some .int), Cond.methodLink RX7 172 yX7_cupsBy, Cond.instanceMethod yX7_cupsBy, Cond.selects RX7 yX7_cupsBy yX7_cupsBy, Cond.code yX7_cupsBy cX7_cupsBy 3 (some .int), Cond.methodLink RX7 166 yX7_wantsInLine, Cond.instanceMethod yX7_wantsInLine, Cond.selects RX7 yX7_wantsInLine yX7_wantsInLine, Cond.code yX7_wantsInLine cX7_wantsInLine 3 (some .int), Cond.methodLink RX7 169 yX7_wantsSoon, Cond.instanceMethod yX7_wantsSoon, Cond.selects RX7 yX7_wantsSoon yX7_wantsSoon, Cond.code yX7_wantsSoon cX7_wantsSoon 4 (some .int), Cond.methodLink RX7 178 yX7_boilTime, Cond.instanceMethod yX7_boilTime]
def wsX7_second_r5 : List Cond := [Cond.selects RX7 yX7_boilTime yX7_boilTime, Cond.code yX7_boilTime cX7_boilTime 4 (some .int), Cond.methodLink RX7 204 yX7_cools, Cond.instanceMethod yX7_cools, Cond.selects RX7 yX7_cools yX7_cools, Cond.code yX7_cools cX7_cools 2 none, Cond.methodLink RX7 225 yX7_costNow, Cond.instanceMethod yX7_costNow, Cond.selects RX7 yX7_costNow yX7_costNow, Cond.code yX7_costNow cX7_costNow 1 (some .int), Cond.methodLink RX7 213 yX7_waitedAll, Cond.instanceMethod yX7_waitedAll, Cond.selects RX7 yX7_waitedAll yX7_waitedAll, Cond.code yX7_waitedAll cX7_waitedAll 3 (some .int), Cond.methodLink RX7 216 yX7_stateMany, Cond.instanceMethod yX7_stateMany, Cond.selects RX7 yX7_stateMany yX7_stateMany, Cond.code yX7_stateMany cX7_stateMany 4 (some .int)]
def wsX7_second : List Cond := .code yX7_second cX7_second 2 (some .int) :: ((wsX7_second_r1 ++ (wsX7_second_r2 ++ (wsX7_second_r3 ++ (wsX7_second_r4 ++ wsX7_second_r5)))) ++ wsX70)
def wsX7_hours : List Cond := .code yX7_hours cX7_hours 4 (some .int) :: ([.fieldLink RX7 77 "FilledForOneModel" "comers" "I", .fieldLink RX7 22 "FilledForOneModel" "comes" "[I"] ++ wsX70)
def wsX7_urn_r1 : List Cond := [Cond.methodLink RX7 81 yX7_bound, Cond.static yX7_bound, Cond.initialized RX7, Cond.code yX7_bound cX7_bound 3 (some .int), Cond.methodLink RX7 88 yX7_no, Cond.instanceMethod yX7_no, Cond.selects RX7 yX7_no yX7_no, Cond.code yX7_no cX7_no 2 (some .int), Cond.fieldLink RX7 7 "FilledForOneModel" "refused" "[I", Cond.methodLink RX7 139 yX7_passesAll, Cond.instanceMethod yX7_passesAll, Cond.selects RX7 yX7_passesAll yX7_passesAll, Cond.code yX7_passesAll cX7_passesAll 3 none, Cond.fieldLink RX7 150 "FilledForOneModel" "cursor" "I", Cond.fieldLink RX7 146 "FilledForOneModel" "isKeeping" "Z", Cond.fieldLink RX7 13 "FilledForOneModel" "setting" "[I", Cond.fieldLink RX7 16 "FilledForOneModel" "kind" "[I", Cond.fieldLink RX7 19 "FilledForOneModel" "figure" "[I", Cond.fieldLink RX7 22 "FilledForOneModel" "comes" "[I", Cond.fieldLink RX7 25 "FilledForOneModel" "wants" "[I", Cond.fieldLink RX7 28 "FilledForOneModel" "patience" "[I", Cond.fieldLink RX7 31 "FilledForOneModel" "state" "[I", Cond.fieldLink RX7 34 "FilledForOneModel" "waited" "[I", Cond.fieldLink RX7 37 "FilledForOneModel" "line" "[I"]
def wsX7_urn_r2 : List Cond := [Cond.fieldLink RX7 40 "FilledForOneModel" "level" "[I", Cond.fieldLink RX7 43 "FilledForOneModel" "warmth" "[I", Cond.fieldLink RX7 46 "FilledForOneModel" "age" "[I", Cond.fieldLink RX7 49 "FilledForOneModel" "busyTill" "[I", Cond.fieldLink RX7 52 "FilledForOneModel" "putBy" "[I", Cond.fieldLink RX7 77 "FilledForOneModel" "comers" "I", Cond.fieldLink RX7 122 "FilledForOneModel" "minute" "I", Cond.fieldLink RX7 160 "FilledForOneModel" "lineMany" "I", Cond.methodLink RX7 153 yX7_passes, Cond.instanceMethod yX7_passes, Cond.selects RX7 yX7_passes yX7_passes, Cond.code yX7_passes cX7_passes 3 none, Cond.fieldLink RX7 67 "FilledForOneModel" "kept" "[I", Cond.methodLink RX7 157 yX7_passOne, Cond.instanceMethod yX7_passOne, Cond.selects RX7 yX7_passOne yX7_passOne, Cond.code yX7_passOne cX7_passOne 3 (some .int), Cond.methodLink RX7 228 yX7_costAnew, Cond.instanceMethod yX7_costAnew, Cond.selects RX7 yX7_costAnew yX7_costAnew, Cond.code yX7_costAnew cX7_costAnew 1 (some .int), Cond.methodLink RX7 219 yX7_begins, Cond.instanceMethod yX7_begins, Cond.selects RX7 yX7_begins yX7_begins]
def wsX7_urn_r3 : List Cond := [Cond.code yX7_begins cX7_begins 2 none, Cond.methodLink RX7 222 yX7_goesToEnd, Cond.instanceMethod yX7_goesToEnd, Cond.selects RX7 yX7_goesToEnd yX7_goesToEnd, Cond.code yX7_goesToEnd cX7_goesToEnd 1 none, Cond.fieldLink RX7 181 "FilledForOneModel" "putOn" "I", Cond.methodLink RX7 207 yX7_isOver, Cond.instanceMethod yX7_isOver, Cond.selects RX7 yX7_isOver yX7_isOver, Cond.code yX7_isOver cX7_isOver 2 (some .boolean), Cond.methodLink RX7 184 yX7_isFree, Cond.instanceMethod yX7_isFree, Cond.selects RX7 yX7_isFree yX7_isFree, Cond.code yX7_isFree cX7_isFree 2 (some .boolean), Cond.methodLink RX7 210 yX7_goesMinute, Cond.instanceMethod yX7_goesMinute, Cond.selects RX7 yX7_goesMinute yX7_goesMinute, Cond.code yX7_goesMinute cX7_goesMinute 3 none, Cond.methodLink RX7 197 yX7_leaves, Cond.instanceMethod yX7_leaves, Cond.selects RX7 yX7_leaves yX7_leaves, Cond.code yX7_leaves cX7_leaves 3 none, Cond.methodLink RX7 201 yX7_isServed, Cond.instanceMethod yX7_isServed]
def wsX7_urn_r4 : List Cond := [Cond.selects RX7 yX7_isServed yX7_isServed, Cond.code yX7_isServed cX7_isServed 3 (some .boolean), Cond.methodLink RX7 187 yX7_hotFor, Cond.instanceMethod yX7_hotFor, Cond.selects RX7 yX7_hotFor yX7_hotFor, Cond.code yX7_hotFor cX7_hotFor 3 (some .int), Cond.methodLink RX7 190 yX7_freeFor, Cond.instanceMethod yX7_freeFor, Cond.selects RX7 yX7_freeFor yX7_freeFor, Cond.code yX7_freeFor cX7_freeFor 4 (some .int), Cond.methodLink RX7 193 yX7_putsOn, Cond.instanceMethod yX7_putsOn, Cond.selects RX7 yX7_putsOn yX7_putsOn, Cond.code yX7_putsOn cX7_putsOn 5 none, Cond.methodLink RX7 175 yX7_upTo, Cond.instanceMethod yX7_upTo, Cond.selects RX7 yX7_upTo yX7_upTo, Cond.code yX7_upTo cX7_upTo 4 (some .int), Cond.methodLink RX7 172 yX7_cupsBy, Cond.instanceMethod yX7_cupsBy, Cond.selects RX7 yX7_cupsBy yX7_cupsBy, Cond.code yX7_cupsBy cX7_cupsBy 3 (some .int), Cond.methodLink RX7 166 yX7_wantsInLine, Cond.instanceMethod yX7_wantsInLine]
def wsX7_urn_r5 : List Cond := [Cond.selects RX7 yX7_wantsInLine yX7_wantsInLine, Cond.code yX7_wantsInLine cX7_wantsInLine 3 (some .int), Cond.methodLink RX7 169 yX7_wantsSoon, Cond.instanceMethod yX7_wantsSoon, Cond.selects RX7 yX7_wantsSoon yX7_wantsSoon, Cond.code yX7_wantsSoon cX7_wantsSoon 4 (some .int), Cond.methodLink RX7 178 yX7_boilTime, Cond.instanceMethod yX7_boilTime, Cond.selects RX7 yX7_boilTime yX7_boilTime, Cond.code yX7_boilTime cX7_boilTime 4 (some .int), Cond.methodLink RX7 204 yX7_cools, Cond.instanceMethod yX7_cools, Cond.selects RX7 yX7_cools yX7_cools, Cond.code yX7_cools cX7_cools 2 none, Cond.methodLink RX7 225 yX7_costNow, Cond.instanceMethod yX7_costNow, Cond.selects RX7 yX7_costNow yX7_costNow, Cond.code yX7_costNow cX7_costNow 1 (some .int), Cond.methodLink RX7 213 yX7_waitedAll, Cond.instanceMethod yX7_waitedAll, Cond.selects RX7 yX7_waitedAll yX7_waitedAll, Cond.code yX7_waitedAll cX7_waitedAll 3 (some .int), Cond.methodLink RX7 216 yX7_stateMany, Cond.instanceMethod yX7_stateMany]
def wsX7_urn_r6 : List Cond := [Cond.selects RX7 yX7_stateMany yX7_stateMany, Cond.code yX7_stateMany cX7_stateMany 4 (some .int), Cond.methodLink RX7 246 yX7_hours, Cond.instanceMethod yX7_hours, Cond.selects RX7 yX7_hours yX7_hours, Cond.code yX7_hours cX7_hours 4 (some .int)]
def wsX7_urn : List Cond := .code yX7_urn cX7_urn 4 (some .int) :: ((wsX7_urn_r1 ++ (wsX7_urn_r2 ++ (wsX7_urn_r3 ++ (wsX7_urn_r4 ++ (wsX7_urn_r5 ++ wsX7_urn_r6))))) ++ wsX70)
def wsX7_sorts : List Cond := .code yX7_sorts cX7_sorts 3 none :: ([.fieldLink RX7 77 "FilledForOneModel" "comers" "I", .fieldLink RX7 22 "FilledForOneModel" "comes" "[I", .fieldLink RX7 70 "FilledForOneModel" "byMinute" "[I"] ++ wsX70)
def wsX7_costOfRows : List Cond := .code yX7_costOfRows cX7_costOfRows 9 (some .int) :: ([.fieldLink RX7 77 "FilledForOneModel" "comers" "I", .fieldLink RX7 25 "FilledForOneModel" "wants" "[I", .fieldLink RX7 70 "FilledForOneModel" "byMinute" "[I", .fieldLink RX7 13 "FilledForOneModel" "setting" "[I", .constant RX7 76 (1000000000), .fieldLink RX7 22 "FilledForOneModel" "comes" "[I", .methodLink RX7 178 yX7_boilTime, .instanceMethod yX7_boilTime, .selects RX7 yX7_boilTime yX7_boilTime, .initialized RX7, .code yX7_boilTime cX7_boilTime 4 (some .int)] ++ wsX70)
def wsX7_least_r1 : List Cond := [Cond.fieldLink RX7 77 "FilledForOneModel" "comers" "I", Cond.fieldLink RX7 25 "FilledForOneModel" "wants" "[I", Cond.fieldLink RX7 13 "FilledForOneModel" "setting" "[I", Cond.constant RX7 76 (1000000000), Cond.methodLink RX7 99 yX7_isIn, Cond.static yX7_isIn, Cond.initialized RX7, Cond.code yX7_isIn cX7_isIn 3 (some .boolean), Cond.methodLink RX7 88 yX7_no, Cond.instanceMethod yX7_no, Cond.selects RX7 yX7_no yX7_no, Cond.code yX7_no cX7_no 2 (some .int), Cond.fieldLink RX7 7 "FilledForOneModel" "refused" "[I", Cond.methodLink RX7 249 yX7_sorts, Cond.instanceMethod yX7_sorts, Cond.selects RX7 yX7_sorts yX7_sorts, Cond.code yX7_sorts cX7_sorts 3 none, Cond.fieldLink RX7 22 "FilledForOneModel" "comes" "[I", Cond.fieldLink RX7 70 "FilledForOneModel" "byMinute" "[I", Cond.methodLink RX7 252 yX7_costOfRows, Cond.instanceMethod yX7_costOfRows, Cond.selects RX7 yX7_costOfRows yX7_costOfRows, Cond.code yX7_costOfRows cX7_costOfRows 9 (some .int), Cond.methodLink RX7 178 yX7_boilTime]
def wsX7_least_r2 : List Cond := [Cond.instanceMethod yX7_boilTime, Cond.selects RX7 yX7_boilTime yX7_boilTime, Cond.code yX7_boilTime cX7_boilTime 4 (some .int)]
def wsX7_least : List Cond := .code yX7_least cX7_least 6 (some .int) :: ((wsX7_least_r1 ++ wsX7_least_r2) ++ wsX70)
def wsX7_ferryBy : List Cond := .code yX7_ferryBy cX7_ferryBy 7 (some .int) :: ([.fieldLink RX7 77 "FilledForOneModel" "comers" "I", .fieldLink RX7 22 "FilledForOneModel" "comes" "[I", .fieldLink RX7 70 "FilledForOneModel" "byMinute" "[I", .methodLink RX7 249 yX7_sorts, .instanceMethod yX7_sorts, .selects RX7 yX7_sorts yX7_sorts, .initialized RX7, .code yX7_sorts cX7_sorts 3 none] ++ wsX70)
def wsX7_timesBy : List Cond := .code yX7_timesBy cX7_timesBy 4 (some .int) :: ([.fieldLink RX7 77 "FilledForOneModel" "comers" "I", .fieldLink RX7 22 "FilledForOneModel" "comes" "[I"] ++ wsX70)
def wsX7_ferry : List Cond := .code yX7_ferry cX7_ferry 4 (some .int) :: ([.methodLink RX7 88 yX7_no, .instanceMethod yX7_no, .selects RX7 yX7_no yX7_no, .initialized RX7, .code yX7_no cX7_no 2 (some .int), .fieldLink RX7 7 "FilledForOneModel" "refused" "[I", .methodLink RX7 255 yX7_ferryBy, .instanceMethod yX7_ferryBy, .selects RX7 yX7_ferryBy yX7_ferryBy, .code yX7_ferryBy cX7_ferryBy 7 (some .int), .fieldLink RX7 77 "FilledForOneModel" "comers" "I", .fieldLink RX7 22 "FilledForOneModel" "comes" "[I", .fieldLink RX7 70 "FilledForOneModel" "byMinute" "[I", .methodLink RX7 249 yX7_sorts, .instanceMethod yX7_sorts, .selects RX7 yX7_sorts yX7_sorts, .code yX7_sorts cX7_sorts 3 none] ++ wsX70)
def wsX7_times : List Cond := .code yX7_times cX7_times 3 (some .int) :: ([.methodLink RX7 81 yX7_bound, .static yX7_bound, .initialized RX7, .code yX7_bound cX7_bound 3 (some .int), .methodLink RX7 88 yX7_no, .instanceMethod yX7_no, .selects RX7 yX7_no yX7_no, .code yX7_no cX7_no 2 (some .int), .fieldLink RX7 7 "FilledForOneModel" "refused" "[I", .methodLink RX7 258 yX7_timesBy, .instanceMethod yX7_timesBy, .selects RX7 yX7_timesBy yX7_timesBy, .code yX7_timesBy cX7_timesBy 4 (some .int), .fieldLink RX7 77 "FilledForOneModel" "comers" "I", .fieldLink RX7 22 "FilledForOneModel" "comes" "[I"] ++ wsX70)
def wsX7_better : List Cond := .code yX7_better cX7_better 7 (some .int) :: ([.methodLink RX7 81 yX7_bound, .static yX7_bound, .initialized RX7, .code yX7_bound cX7_bound 3 (some .int), .methodLink RX7 88 yX7_no, .instanceMethod yX7_no, .selects RX7 yX7_no yX7_no, .code yX7_no cX7_no 2 (some .int), .fieldLink RX7 7 "FilledForOneModel" "refused" "[I", .methodLink RX7 258 yX7_timesBy, .instanceMethod yX7_timesBy, .selects RX7 yX7_timesBy yX7_timesBy, .code yX7_timesBy cX7_timesBy 4 (some .int), .fieldLink RX7 77 "FilledForOneModel" "comers" "I", .fieldLink RX7 22 "FilledForOneModel" "comes" "[I", .methodLink RX7 255 yX7_ferryBy, .instanceMethod yX7_ferryBy, .selects RX7 yX7_ferryBy yX7_ferryBy, .code yX7_ferryBy cX7_ferryBy 7 (some .int), .fieldLink RX7 70 "FilledForOneModel" "byMinute" "[I", .methodLink RX7 249 yX7_sorts, .instanceMethod yX7_sorts, .selects RX7 yX7_sorts yX7_sorts, .code yX7_sorts cX7_sorts 3 none] ++ wsX70)
def wsX7_follow_r1 : List Cond := [Cond.constant RX7 76 (1000000000), Cond.fieldLink RX7 77 "FilledForOneModel" "comers" "I", Cond.fieldLink RX7 16 "FilledForOneModel" "kind" "[I", Cond.fieldLink RX7 19 "FilledForOneModel" "figure" "[I", Cond.methodLink RX7 139 yX7_passesAll, Cond.instanceMethod yX7_passesAll, Cond.selects RX7 yX7_passesAll yX7_passesAll, Cond.initialized RX7, Cond.code yX7_passesAll cX7_passesAll 3 none, Cond.fieldLink RX7 150 "FilledForOneModel" "cursor" "I", Cond.fieldLink RX7 146 "FilledForOneModel" "isKeeping" "Z", Cond.fieldLink RX7 13 "FilledForOneModel" "setting" "[I", Cond.fieldLink RX7 22 "FilledForOneModel" "comes" "[I", Cond.fieldLink RX7 25 "FilledForOneModel" "wants" "[I", Cond.fieldLink RX7 28 "FilledForOneModel" "patience" "[I", Cond.fieldLink RX7 31 "FilledForOneModel" "state" "[I", Cond.fieldLink RX7 34 "FilledForOneModel" "waited" "[I", Cond.fieldLink RX7 37 "FilledForOneModel" "line" "[I", Cond.fieldLink RX7 40 "FilledForOneModel" "level" "[I", Cond.fieldLink RX7 43 "FilledForOneModel" "warmth" "[I", Cond.fieldLink RX7 46 "FilledForOneModel" "age" "[I", Cond.fieldLink RX7 49 "FilledForOneModel" "busyTill" "[I", Cond.fieldLink RX7 52 "FilledForOneModel" "putBy" "[I", Cond.fieldLink RX7 122 "FilledForOneModel" "minute" "I"]
def wsX7_follow_r2 : List Cond := [Cond.fieldLink RX7 160 "FilledForOneModel" "lineMany" "I", Cond.methodLink RX7 153 yX7_passes, Cond.instanceMethod yX7_passes, Cond.selects RX7 yX7_passes yX7_passes, Cond.code yX7_passes cX7_passes 3 none, Cond.fieldLink RX7 67 "FilledForOneModel" "kept" "[I", Cond.methodLink RX7 157 yX7_passOne, Cond.instanceMethod yX7_passOne, Cond.selects RX7 yX7_passOne yX7_passOne, Cond.code yX7_passOne cX7_passOne 3 (some .int), Cond.methodLink RX7 228 yX7_costAnew, Cond.instanceMethod yX7_costAnew, Cond.selects RX7 yX7_costAnew yX7_costAnew, Cond.code yX7_costAnew cX7_costAnew 1 (some .int), Cond.methodLink RX7 219 yX7_begins, Cond.instanceMethod yX7_begins, Cond.selects RX7 yX7_begins yX7_begins, Cond.code yX7_begins cX7_begins 2 none, Cond.methodLink RX7 222 yX7_goesToEnd, Cond.instanceMethod yX7_goesToEnd, Cond.selects RX7 yX7_goesToEnd yX7_goesToEnd, Cond.code yX7_goesToEnd cX7_goesToEnd 1 none, Cond.fieldLink RX7 181 "FilledForOneModel" "putOn" "I", Cond.methodLink RX7 207 yX7_isOver]
def wsX7_follow_r3 : List Cond := [Cond.instanceMethod yX7_isOver, Cond.selects RX7 yX7_isOver yX7_isOver, Cond.code yX7_isOver cX7_isOver 2 (some .boolean), Cond.methodLink RX7 184 yX7_isFree, Cond.instanceMethod yX7_isFree, Cond.selects RX7 yX7_isFree yX7_isFree, Cond.code yX7_isFree cX7_isFree 2 (some .boolean), Cond.methodLink RX7 210 yX7_goesMinute, Cond.instanceMethod yX7_goesMinute, Cond.selects RX7 yX7_goesMinute yX7_goesMinute, Cond.code yX7_goesMinute cX7_goesMinute 3 none, Cond.methodLink RX7 197 yX7_leaves, Cond.instanceMethod yX7_leaves, Cond.selects RX7 yX7_leaves yX7_leaves, Cond.code yX7_leaves cX7_leaves 3 none, Cond.methodLink RX7 201 yX7_isServed, Cond.instanceMethod yX7_isServed, Cond.selects RX7 yX7_isServed yX7_isServed, Cond.code yX7_isServed cX7_isServed 3 (some .boolean), Cond.methodLink RX7 187 yX7_hotFor, Cond.instanceMethod yX7_hotFor, Cond.selects RX7 yX7_hotFor yX7_hotFor, Cond.code yX7_hotFor cX7_hotFor 3 (some .int), Cond.methodLink RX7 190 yX7_freeFor]
def wsX7_follow_r4 : List Cond := [Cond.instanceMethod yX7_freeFor, Cond.selects RX7 yX7_freeFor yX7_freeFor, Cond.code yX7_freeFor cX7_freeFor 4 (some .int), Cond.methodLink RX7 193 yX7_putsOn, Cond.instanceMethod yX7_putsOn, Cond.selects RX7 yX7_putsOn yX7_putsOn, Cond.code yX7_putsOn cX7_putsOn 5 none, Cond.methodLink RX7 175 yX7_upTo, Cond.instanceMethod yX7_upTo, Cond.selects RX7 yX7_upTo yX7_upTo, Cond.code yX7_upTo cX7_upTo 4 (some .int), Cond.methodLink RX7 172 yX7_cupsBy, Cond.instanceMethod yX7_cupsBy, Cond.selects RX7 yX7_cupsBy yX7_cupsBy, Cond.code yX7_cupsBy cX7_cupsBy 3 (some .int), Cond.methodLink RX7 166 yX7_wantsInLine, Cond.instanceMethod yX7_wantsInLine, Cond.selects RX7 yX7_wantsInLine yX7_wantsInLine, Cond.code yX7_wantsInLine cX7_wantsInLine 3 (some .int), Cond.methodLink RX7 169 yX7_wantsSoon, Cond.instanceMethod yX7_wantsSoon, Cond.selects RX7 yX7_wantsSoon yX7_wantsSoon, Cond.code yX7_wantsSoon cX7_wantsSoon 4 (some .int), Cond.methodLink RX7 178 yX7_boilTime]
def wsX7_follow_r5 : List Cond := [Cond.instanceMethod yX7_boilTime, Cond.selects RX7 yX7_boilTime yX7_boilTime, Cond.code yX7_boilTime cX7_boilTime 4 (some .int), Cond.methodLink RX7 204 yX7_cools, Cond.instanceMethod yX7_cools, Cond.selects RX7 yX7_cools yX7_cools, Cond.code yX7_cools cX7_cools 2 none, Cond.methodLink RX7 225 yX7_costNow, Cond.instanceMethod yX7_costNow, Cond.selects RX7 yX7_costNow yX7_costNow, Cond.code yX7_costNow cX7_costNow 1 (some .int), Cond.methodLink RX7 213 yX7_waitedAll, Cond.instanceMethod yX7_waitedAll, Cond.selects RX7 yX7_waitedAll yX7_waitedAll, Cond.code yX7_waitedAll cX7_waitedAll 3 (some .int), Cond.methodLink RX7 216 yX7_stateMany, Cond.instanceMethod yX7_stateMany, Cond.selects RX7 yX7_stateMany yX7_stateMany, Cond.code yX7_stateMany cX7_stateMany 4 (some .int)]
def wsX7_follow : List Cond := .code yX7_follow cX7_follow 7 (some .int) :: ((wsX7_follow_r1 ++ (wsX7_follow_r2 ++ (wsX7_follow_r3 ++ (wsX7_follow_r4 ++ wsX7_follow_r5)))) ++ wsX70)
def wsX7_row : List Cond := .code yX7_row cX7_row 3 (some .int) :: ([.fieldLink RX7 261 "FilledForOneModel" "rowMany" "I", .fieldLink RX7 73 "FilledForOneModel" "row" "[I", .methodLink RX7 81 yX7_bound, .static yX7_bound, .initialized RX7, .code yX7_bound cX7_bound 3 (some .int), .methodLink RX7 88 yX7_no, .instanceMethod yX7_no, .selects RX7 yX7_no yX7_no, .code yX7_no cX7_no 2 (some .int), .fieldLink RX7 7 "FilledForOneModel" "refused" "[I"] ++ wsX70)
def wsX7_judge_r1 : List Cond := [Cond.fieldLink RX7 261 "FilledForOneModel" "rowMany" "I", Cond.fieldLink RX7 40 "FilledForOneModel" "level" "[I", Cond.fieldLink RX7 73 "FilledForOneModel" "row" "[I", Cond.methodLink RX7 139 yX7_passesAll, Cond.instanceMethod yX7_passesAll, Cond.selects RX7 yX7_passesAll yX7_passesAll, Cond.initialized RX7, Cond.code yX7_passesAll cX7_passesAll 3 none, Cond.fieldLink RX7 150 "FilledForOneModel" "cursor" "I", Cond.fieldLink RX7 146 "FilledForOneModel" "isKeeping" "Z", Cond.fieldLink RX7 13 "FilledForOneModel" "setting" "[I", Cond.fieldLink RX7 16 "FilledForOneModel" "kind" "[I", Cond.fieldLink RX7 19 "FilledForOneModel" "figure" "[I", Cond.fieldLink RX7 22 "FilledForOneModel" "comes" "[I", Cond.fieldLink RX7 25 "FilledForOneModel" "wants" "[I", Cond.fieldLink RX7 28 "FilledForOneModel" "patience" "[I", Cond.fieldLink RX7 31 "FilledForOneModel" "state" "[I", Cond.fieldLink RX7 34 "FilledForOneModel" "waited" "[I", Cond.fieldLink RX7 37 "FilledForOneModel" "line" "[I", Cond.fieldLink RX7 43 "FilledForOneModel" "warmth" "[I", Cond.fieldLink RX7 46 "FilledForOneModel" "age" "[I", Cond.fieldLink RX7 49 "FilledForOneModel" "busyTill" "[I", Cond.fieldLink RX7 52 "FilledForOneModel" "putBy" "[I", Cond.fieldLink RX7 77 "FilledForOneModel" "comers" "I"]
def wsX7_judge_r2 : List Cond := [Cond.fieldLink RX7 122 "FilledForOneModel" "minute" "I", Cond.fieldLink RX7 160 "FilledForOneModel" "lineMany" "I", Cond.methodLink RX7 153 yX7_passes, Cond.instanceMethod yX7_passes, Cond.selects RX7 yX7_passes yX7_passes, Cond.code yX7_passes cX7_passes 3 none, Cond.fieldLink RX7 67 "FilledForOneModel" "kept" "[I", Cond.methodLink RX7 157 yX7_passOne, Cond.instanceMethod yX7_passOne, Cond.selects RX7 yX7_passOne yX7_passOne, Cond.code yX7_passOne cX7_passOne 3 (some .int), Cond.methodLink RX7 207 yX7_isOver, Cond.instanceMethod yX7_isOver, Cond.selects RX7 yX7_isOver yX7_isOver, Cond.code yX7_isOver cX7_isOver 2 (some .boolean), Cond.methodLink RX7 184 yX7_isFree, Cond.instanceMethod yX7_isFree, Cond.selects RX7 yX7_isFree yX7_isFree, Cond.code yX7_isFree cX7_isFree 2 (some .boolean), Cond.methodLink RX7 210 yX7_goesMinute, Cond.instanceMethod yX7_goesMinute, Cond.selects RX7 yX7_goesMinute yX7_goesMinute, Cond.code yX7_goesMinute cX7_goesMinute 3 none, Cond.methodLink RX7 197 yX7_leaves]
def wsX7_judge_r3 : List Cond := [Cond.instanceMethod yX7_leaves, Cond.selects RX7 yX7_leaves yX7_leaves, Cond.code yX7_leaves cX7_leaves 3 none, Cond.methodLink RX7 201 yX7_isServed, Cond.instanceMethod yX7_isServed, Cond.selects RX7 yX7_isServed yX7_isServed, Cond.code yX7_isServed cX7_isServed 3 (some .boolean), Cond.methodLink RX7 187 yX7_hotFor, Cond.instanceMethod yX7_hotFor, Cond.selects RX7 yX7_hotFor yX7_hotFor, Cond.code yX7_hotFor cX7_hotFor 3 (some .int), Cond.methodLink RX7 190 yX7_freeFor, Cond.instanceMethod yX7_freeFor, Cond.selects RX7 yX7_freeFor yX7_freeFor, Cond.code yX7_freeFor cX7_freeFor 4 (some .int), Cond.methodLink RX7 193 yX7_putsOn, Cond.instanceMethod yX7_putsOn, Cond.selects RX7 yX7_putsOn yX7_putsOn, Cond.code yX7_putsOn cX7_putsOn 5 none, Cond.fieldLink RX7 181 "FilledForOneModel" "putOn" "I", Cond.methodLink RX7 175 yX7_upTo, Cond.instanceMethod yX7_upTo, Cond.selects RX7 yX7_upTo yX7_upTo, Cond.code yX7_upTo cX7_upTo 4 (some .int)]
def wsX7_judge_r4 : List Cond := [Cond.methodLink RX7 172 yX7_cupsBy, Cond.instanceMethod yX7_cupsBy, Cond.selects RX7 yX7_cupsBy yX7_cupsBy, Cond.code yX7_cupsBy cX7_cupsBy 3 (some .int), Cond.methodLink RX7 166 yX7_wantsInLine, Cond.instanceMethod yX7_wantsInLine, Cond.selects RX7 yX7_wantsInLine yX7_wantsInLine, Cond.code yX7_wantsInLine cX7_wantsInLine 3 (some .int), Cond.methodLink RX7 169 yX7_wantsSoon, Cond.instanceMethod yX7_wantsSoon, Cond.selects RX7 yX7_wantsSoon yX7_wantsSoon, Cond.code yX7_wantsSoon cX7_wantsSoon 4 (some .int), Cond.methodLink RX7 178 yX7_boilTime, Cond.instanceMethod yX7_boilTime, Cond.selects RX7 yX7_boilTime yX7_boilTime, Cond.code yX7_boilTime cX7_boilTime 4 (some .int), Cond.methodLink RX7 204 yX7_cools, Cond.instanceMethod yX7_cools, Cond.selects RX7 yX7_cools yX7_cools, Cond.code yX7_cools cX7_cools 2 none]
def wsX7_judge : List Cond := .code yX7_judge cX7_judge 4 (some .int) :: ((wsX7_judge_r1 ++ (wsX7_judge_r2 ++ (wsX7_judge_r3 ++ wsX7_judge_r4))) ++ wsX70)
def wsX7_fits_r1 : List Cond := [Cond.fieldLink RX7 160 "FilledForOneModel" "lineMany" "I", Cond.fieldLink RX7 37 "FilledForOneModel" "line" "[I", Cond.methodLink RX7 81 yX7_bound, Cond.static yX7_bound, Cond.initialized RX7, Cond.code yX7_bound cX7_bound 3 (some .int), Cond.methodLink RX7 88 yX7_no, Cond.instanceMethod yX7_no, Cond.selects RX7 yX7_no yX7_no, Cond.code yX7_no cX7_no 2 (some .int), Cond.fieldLink RX7 7 "FilledForOneModel" "refused" "[I", Cond.methodLink RX7 175 yX7_upTo, Cond.instanceMethod yX7_upTo, Cond.selects RX7 yX7_upTo yX7_upTo, Cond.code yX7_upTo cX7_upTo 4 (some .int), Cond.fieldLink RX7 25 "FilledForOneModel" "wants" "[I", Cond.fieldLink RX7 13 "FilledForOneModel" "setting" "[I", Cond.methodLink RX7 172 yX7_cupsBy, Cond.instanceMethod yX7_cupsBy, Cond.selects RX7 yX7_cupsBy yX7_cupsBy, Cond.code yX7_cupsBy cX7_cupsBy 3 (some .int), Cond.fieldLink RX7 19 "FilledForOneModel" "figure" "[I", Cond.methodLink RX7 166 yX7_wantsInLine, Cond.instanceMethod yX7_wantsInLine]
def wsX7_fits_r2 : List Cond := [Cond.selects RX7 yX7_wantsInLine yX7_wantsInLine, Cond.code yX7_wantsInLine cX7_wantsInLine 3 (some .int), Cond.methodLink RX7 169 yX7_wantsSoon, Cond.instanceMethod yX7_wantsSoon, Cond.selects RX7 yX7_wantsSoon yX7_wantsSoon, Cond.code yX7_wantsSoon cX7_wantsSoon 4 (some .int), Cond.fieldLink RX7 77 "FilledForOneModel" "comers" "I", Cond.fieldLink RX7 31 "FilledForOneModel" "state" "[I", Cond.fieldLink RX7 22 "FilledForOneModel" "comes" "[I", Cond.fieldLink RX7 122 "FilledForOneModel" "minute" "I"]
def wsX7_fits : List Cond := .code yX7_fits cX7_fits 5 (some .int) :: ((wsX7_fits_r1 ++ wsX7_fits_r2) ++ wsX70)
def wsX7_seeds_r1 : List Cond := [Cond.fieldLink RX7 77 "FilledForOneModel" "comers" "I", Cond.constant RX7 264 (1103515245), Cond.fieldLink RX7 22 "FilledForOneModel" "comes" "[I", Cond.constant RX7 265 (2147483647), Cond.constant RX7 266 (65536), Cond.methodLink RX7 81 yX7_bound, Cond.static yX7_bound, Cond.initialized RX7, Cond.code yX7_bound cX7_bound 3 (some .int), Cond.methodLink RX7 99 yX7_isIn, Cond.static yX7_isIn, Cond.code yX7_isIn cX7_isIn 3 (some .boolean), Cond.methodLink RX7 88 yX7_no, Cond.instanceMethod yX7_no, Cond.selects RX7 yX7_no yX7_no, Cond.code yX7_no cX7_no 2 (some .int), Cond.fieldLink RX7 7 "FilledForOneModel" "refused" "[I", Cond.methodLink RX7 139 yX7_passesAll, Cond.instanceMethod yX7_passesAll, Cond.selects RX7 yX7_passesAll yX7_passesAll, Cond.code yX7_passesAll cX7_passesAll 3 none, Cond.fieldLink RX7 150 "FilledForOneModel" "cursor" "I", Cond.fieldLink RX7 146 "FilledForOneModel" "isKeeping" "Z", Cond.fieldLink RX7 13 "FilledForOneModel" "setting" "[I"]
def wsX7_seeds_r2 : List Cond := [Cond.fieldLink RX7 16 "FilledForOneModel" "kind" "[I", Cond.fieldLink RX7 19 "FilledForOneModel" "figure" "[I", Cond.fieldLink RX7 25 "FilledForOneModel" "wants" "[I", Cond.fieldLink RX7 28 "FilledForOneModel" "patience" "[I", Cond.fieldLink RX7 31 "FilledForOneModel" "state" "[I", Cond.fieldLink RX7 34 "FilledForOneModel" "waited" "[I", Cond.fieldLink RX7 37 "FilledForOneModel" "line" "[I", Cond.fieldLink RX7 40 "FilledForOneModel" "level" "[I", Cond.fieldLink RX7 43 "FilledForOneModel" "warmth" "[I", Cond.fieldLink RX7 46 "FilledForOneModel" "age" "[I", Cond.fieldLink RX7 49 "FilledForOneModel" "busyTill" "[I", Cond.fieldLink RX7 52 "FilledForOneModel" "putBy" "[I", Cond.fieldLink RX7 122 "FilledForOneModel" "minute" "I", Cond.fieldLink RX7 160 "FilledForOneModel" "lineMany" "I", Cond.methodLink RX7 153 yX7_passes, Cond.instanceMethod yX7_passes, Cond.selects RX7 yX7_passes yX7_passes, Cond.code yX7_passes cX7_passes 3 none, Cond.fieldLink RX7 67 "FilledForOneModel" "kept" "[I", Cond.methodLink RX7 157 yX7_passOne, Cond.instanceMethod yX7_passOne, Cond.selects RX7 yX7_passOne yX7_passOne, Cond.code yX7_passOne cX7_passOne 3 (some .int), Cond.methodLink RX7 228 yX7_costAnew]
def wsX7_seeds_r3 : List Cond := [Cond.instanceMethod yX7_costAnew, Cond.selects RX7 yX7_costAnew yX7_costAnew, Cond.code yX7_costAnew cX7_costAnew 1 (some .int), Cond.methodLink RX7 219 yX7_begins, Cond.instanceMethod yX7_begins, Cond.selects RX7 yX7_begins yX7_begins, Cond.code yX7_begins cX7_begins 2 none, Cond.methodLink RX7 222 yX7_goesToEnd, Cond.instanceMethod yX7_goesToEnd, Cond.selects RX7 yX7_goesToEnd yX7_goesToEnd, Cond.code yX7_goesToEnd cX7_goesToEnd 1 none, Cond.fieldLink RX7 181 "FilledForOneModel" "putOn" "I", Cond.methodLink RX7 207 yX7_isOver, Cond.instanceMethod yX7_isOver, Cond.selects RX7 yX7_isOver yX7_isOver, Cond.code yX7_isOver cX7_isOver 2 (some .boolean), Cond.methodLink RX7 184 yX7_isFree, Cond.instanceMethod yX7_isFree, Cond.selects RX7 yX7_isFree yX7_isFree, Cond.code yX7_isFree cX7_isFree 2 (some .boolean), Cond.methodLink RX7 210 yX7_goesMinute, Cond.instanceMethod yX7_goesMinute, Cond.selects RX7 yX7_goesMinute yX7_goesMinute, Cond.code yX7_goesMinute cX7_goesMinute 3 none]
def wsX7_seeds_r4 : List Cond := [Cond.methodLink RX7 197 yX7_leaves, Cond.instanceMethod yX7_leaves, Cond.selects RX7 yX7_leaves yX7_leaves, Cond.code yX7_leaves cX7_leaves 3 none, Cond.methodLink RX7 201 yX7_isServed, Cond.instanceMethod yX7_isServed, Cond.selects RX7 yX7_isServed yX7_isServed, Cond.code yX7_isServed cX7_isServed 3 (some .boolean), Cond.methodLink RX7 187 yX7_hotFor, Cond.instanceMethod yX7_hotFor, Cond.selects RX7 yX7_hotFor yX7_hotFor, Cond.code yX7_hotFor cX7_hotFor 3 (some .int), Cond.methodLink RX7 190 yX7_freeFor, Cond.instanceMethod yX7_freeFor, Cond.selects RX7 yX7_freeFor yX7_freeFor, Cond.code yX7_freeFor cX7_freeFor 4 (some .int), Cond.methodLink RX7 193 yX7_putsOn, Cond.instanceMethod yX7_putsOn, Cond.selects RX7 yX7_putsOn yX7_putsOn, Cond.code yX7_putsOn cX7_putsOn 5 none, Cond.methodLink RX7 175 yX7_upTo, Cond.instanceMethod yX7_upTo, Cond.selects RX7 yX7_upTo yX7_upTo, Cond.code yX7_upTo cX7_upTo 4 (some .int)]
def wsX7_seeds_r5 : List Cond := [Cond.methodLink RX7 172 yX7_cupsBy, Cond.instanceMethod yX7_cupsBy, Cond.selects RX7 yX7_cupsBy yX7_cupsBy, Cond.code yX7_cupsBy cX7_cupsBy 3 (some .int), Cond.methodLink RX7 166 yX7_wantsInLine, Cond.instanceMethod yX7_wantsInLine, Cond.selects RX7 yX7_wantsInLine yX7_wantsInLine, Cond.code yX7_wantsInLine cX7_wantsInLine 3 (some .int), Cond.methodLink RX7 169 yX7_wantsSoon, Cond.instanceMethod yX7_wantsSoon, Cond.selects RX7 yX7_wantsSoon yX7_wantsSoon, Cond.code yX7_wantsSoon cX7_wantsSoon 4 (some .int), Cond.methodLink RX7 178 yX7_boilTime, Cond.instanceMethod yX7_boilTime, Cond.selects RX7 yX7_boilTime yX7_boilTime, Cond.code yX7_boilTime cX7_boilTime 4 (some .int), Cond.methodLink RX7 204 yX7_cools, Cond.instanceMethod yX7_cools, Cond.selects RX7 yX7_cools yX7_cools, Cond.code yX7_cools cX7_cools 2 none, Cond.methodLink RX7 225 yX7_costNow, Cond.instanceMethod yX7_costNow, Cond.selects RX7 yX7_costNow yX7_costNow, Cond.code yX7_costNow cX7_costNow 1 (some .int)]
def wsX7_seeds_r6 : List Cond := [Cond.methodLink RX7 213 yX7_waitedAll, Cond.instanceMethod yX7_waitedAll, Cond.selects RX7 yX7_waitedAll yX7_waitedAll, Cond.code yX7_waitedAll cX7_waitedAll 3 (some .int), Cond.methodLink RX7 216 yX7_stateMany, Cond.instanceMethod yX7_stateMany, Cond.selects RX7 yX7_stateMany yX7_stateMany, Cond.code yX7_stateMany cX7_stateMany 4 (some .int)]
def wsX7_seeds : List Cond := .code yX7_seeds cX7_seeds 10 (some .int) :: ((wsX7_seeds_r1 ++ (wsX7_seeds_r2 ++ (wsX7_seeds_r3 ++ (wsX7_seeds_r4 ++ (wsX7_seeds_r5 ++ wsX7_seeds_r6))))) ++ wsX70)
def wsX7_count_r1 : List Cond := [Cond.fieldLink RX7 7 "FilledForOneModel" "refused" "[I", Cond.fieldLink RX7 13 "FilledForOneModel" "setting" "[I", Cond.fieldLink RX7 77 "FilledForOneModel" "comers" "I", Cond.fieldLink RX7 122 "FilledForOneModel" "minute" "I", Cond.fieldLink RX7 160 "FilledForOneModel" "lineMany" "I", Cond.fieldLink RX7 85 "FilledForOneModel" "taped" "I", Cond.fieldLink RX7 261 "FilledForOneModel" "rowMany" "I", Cond.methodLink RX7 99 yX7_isIn, Cond.static yX7_isIn, Cond.initialized RX7, Cond.code yX7_isIn cX7_isIn 3 (some .boolean), Cond.methodLink RX7 216 yX7_stateMany, Cond.instanceMethod yX7_stateMany, Cond.selects RX7 yX7_stateMany yX7_stateMany, Cond.code yX7_stateMany cX7_stateMany 4 (some .int), Cond.fieldLink RX7 31 "FilledForOneModel" "state" "[I", Cond.methodLink RX7 207 yX7_isOver, Cond.instanceMethod yX7_isOver, Cond.selects RX7 yX7_isOver yX7_isOver, Cond.code yX7_isOver cX7_isOver 2 (some .boolean), Cond.methodLink RX7 184 yX7_isFree, Cond.instanceMethod yX7_isFree, Cond.selects RX7 yX7_isFree yX7_isFree, Cond.code yX7_isFree cX7_isFree 2 (some .boolean)]
def wsX7_count_r2 : List Cond := [Cond.fieldLink RX7 49 "FilledForOneModel" "busyTill" "[I", Cond.methodLink RX7 213 yX7_waitedAll, Cond.instanceMethod yX7_waitedAll, Cond.selects RX7 yX7_waitedAll yX7_waitedAll, Cond.code yX7_waitedAll cX7_waitedAll 3 (some .int), Cond.fieldLink RX7 34 "FilledForOneModel" "waited" "[I"]
def wsX7_count : List Cond := .code yX7_count cX7_count 2 (some .int) :: ((wsX7_count_r1 ++ wsX7_count_r2) ++ wsX70)
def wsJ9_max_7cf53 : List Cond := .code yJ9_max_7cf53 cJ9_max_7cf53 2 (some .int) :: ([])
def wsJ9_min_7cf53 : List Cond := .code yJ9_min_7cf53 cJ9_min_7cf53 2 (some .int) :: ([])
abbrev vwCl : List vw_C := [(RX0, TX0, 3), (RX1, TX1, 7), (RX2, TX2, 8), (RX3, TX3, 5), (RX4, TX4, 3), (RX5, TX5, 2), (RX6, TX6, 9), (RX7, TX7, 33)]
end
section
theorem dX0_init_0 : decode cX0_init 0 = .ok (.aload_n 0, 1) := by decide +kernel
theorem dX0_init_1 : decode cX0_init 1 = .ok (.invokespecial 3, 3) := by decide +kernel
theorem dX0_init_4 : decode cX0_init 4 = .ok (.aload_n 0, 1) := by decide +kernel
theorem dX0_init_5 : decode cX0_init 5 = .ok (.bipush 8, 2) := by decide +kernel
theorem dX0_init_7 : decode cX0_init 7 = .ok (.newarray .int, 2) := by decide +kernel
theorem dX0_init_9 : decode cX0_init 9 = .ok (.putfield 9, 3) := by decide +kernel
theorem dX0_init_12 : decode cX0_init 12 = .ok (.aload_n 0, 1) := by decide +kernel
theorem dX0_init_13 : decode cX0_init 13 = .ok (.bipush 8, 2) := by decide +kernel
theorem dX0_init_15 : decode cX0_init 15 = .ok (.newarray .int, 2) := by decide +kernel
theorem dX0_init_17 : decode cX0_init 17 = .ok (.putfield 15, 3) := by decide +kernel
theorem dX0_init_20 : decode cX0_init 20 = .ok (.return_, 1) := by decide +kernel
set_option maxRecDepth 20000 in
theorem ggX0_take_X0_insert : GoodIn wsX0_take wsX0_insert := goodIn_r _ [11, 1, 3, 12, 13, 14, 15] (by decide +kernel) (by decide +kernel)
set_option maxRecDepth 20000 in
theorem gX0_take_X0_insert : GoodIn wsX0_take (wsV RX0 38 RX0 yX0_insert wsX0_insert) := goodIn_app (goodIn_of _ (by decide +kernel)) ggX0_take_X0_insert
theorem dX0_take_0 : decode cX0_take 0 = .ok (.aload_n 0, 1) := by decide +kernel
theorem dX0_take_1 : decode cX0_take 1 = .ok (.iconst 0, 1) := by decide +kernel
theorem dX0_take_2 : decode cX0_take 2 = .ok (.putfield 18, 3) := by decide +kernel
theorem dX0_take_5 : decode cX0_take 5 = .ok (.iconst 0, 1) := by decide +kernel
theorem dX0_take_6 : decode cX0_take 6 = .ok (.istore_n 2, 1) := by decide +kernel
theorem dX0_take_7 : decode cX0_take 7 = .ok (.iload_n 2, 1) := by decide +kernel
theorem dX0_take_8 : decode cX0_take 8 = .ok (.aload_n 1, 1) := by decide +kernel
theorem dX0_take_9 : decode cX0_take 9 = .ok (.getfield 22, 3) := by decide +kernel
theorem dX0_take_12 : decode cX0_take 12 = .ok (.if_icmp .ge 43, 3) := by decide +kernel
theorem dX0_take_15 : decode cX0_take 15 = .ok (.aload_n 0, 1) := by decide +kernel
theorem dX0_take_16 : decode cX0_take 16 = .ok (.getfield 18, 3) := by decide +kernel
theorem dX0_take_19 : decode cX0_take 19 = .ok (.aload_n 0, 1) := by decide +kernel
theorem dX0_take_20 : decode cX0_take 20 = .ok (.getfield 9, 3) := by decide +kernel
theorem dX0_take_23 : decode cX0_take 23 = .ok (.arraylength, 1) := by decide +kernel
theorem dX0_take_24 : decode cX0_take 24 = .ok (.if_icmp .ge 31, 3) := by decide +kernel
theorem dX0_take_27 : decode cX0_take 27 = .ok (.aload_n 0, 1) := by decide +kernel
theorem dX0_take_28 : decode cX0_take 28 = .ok (.aload_n 1, 1) := by decide +kernel
theorem dX0_take_29 : decode cX0_take 29 = .ok (.getfield 27, 3) := by decide +kernel
theorem dX0_take_32 : decode cX0_take 32 = .ok (.iload_n 2, 1) := by decide +kernel
theorem dX0_take_33 : decode cX0_take 33 = .ok (.aaload, 1) := by decide +kernel
theorem dX0_take_34 : decode cX0_take 34 = .ok (.getfield 31, 3) := by decide +kernel
theorem dX0_take_37 : decode cX0_take 37 = .ok (.aload_n 1, 1) := by decide +kernel
theorem dX0_take_38 : decode cX0_take 38 = .ok (.getfield 27, 3) := by decide +kernel
theorem dX0_take_41 : decode cX0_take 41 = .ok (.iload_n 2, 1) := by decide +kernel
theorem dX0_take_42 : decode cX0_take 42 = .ok (.aaload, 1) := by decide +kernel
theorem dX0_take_43 : decode cX0_take 43 = .ok (.getfield 36, 3) := by decide +kernel
theorem dX0_take_46 : decode cX0_take 46 = .ok (.invokevirtual 38, 3) := by decide +kernel
theorem dX0_take_49 : decode cX0_take 49 = .ok (.iinc 2 1, 3) := by decide +kernel
theorem dX0_take_52 : decode cX0_take 52 = .ok (.goto (-45), 3) := by decide +kernel
theorem dX0_take_55 : decode cX0_take 55 = .ok (.return_, 1) := by decide +kernel
theorem dX0_insert_0 : decode cX0_insert 0 = .ok (.aload_n 0, 1) := by decide +kernel
theorem dX0_insert_1 : decode cX0_insert 1 = .ok (.getfield 18, 3) := by decide +kernel
theorem dX0_insert_4 : decode cX0_insert 4 = .ok (.istore_n 3, 1) := by decide +kernel
theorem dX0_insert_5 : decode cX0_insert 5 = .ok (.iload_n 3, 1) := by decide +kernel
theorem dX0_insert_6 : decode cX0_insert 6 = .ok (.ifCond .le 49, 3) := by decide +kernel
theorem dX0_insert_9 : decode cX0_insert 9 = .ok (.aload_n 0, 1) := by decide +kernel
theorem dX0_insert_10 : decode cX0_insert 10 = .ok (.getfield 9, 3) := by decide +kernel
theorem dX0_insert_13 : decode cX0_insert 13 = .ok (.iload_n 3, 1) := by decide +kernel
theorem dX0_insert_14 : decode cX0_insert 14 = .ok (.iconst 1, 1) := by decide +kernel
theorem dX0_insert_15 : decode cX0_insert 15 = .ok (.isub, 1) := by decide +kernel
theorem dX0_insert_16 : decode cX0_insert 16 = .ok (.iaload, 1) := by decide +kernel
theorem dX0_insert_17 : decode cX0_insert 17 = .ok (.iload_n 1, 1) := by decide +kernel
theorem dX0_insert_18 : decode cX0_insert 18 = .ok (.if_icmp .le 37, 3) := by decide +kernel
theorem dX0_insert_21 : decode cX0_insert 21 = .ok (.aload_n 0, 1) := by decide +kernel
theorem dX0_insert_22 : decode cX0_insert 22 = .ok (.getfield 9, 3) := by decide +kernel
theorem dX0_insert_25 : decode cX0_insert 25 = .ok (.iload_n 3, 1) := by decide +kernel
theorem dX0_insert_26 : decode cX0_insert 26 = .ok (.aload_n 0, 1) := by decide +kernel
theorem dX0_insert_27 : decode cX0_insert 27 = .ok (.getfield 9, 3) := by decide +kernel
theorem dX0_insert_30 : decode cX0_insert 30 = .ok (.iload_n 3, 1) := by decide +kernel
theorem dX0_insert_31 : decode cX0_insert 31 = .ok (.iconst 1, 1) := by decide +kernel
theorem dX0_insert_32 : decode cX0_insert 32 = .ok (.isub, 1) := by decide +kernel
theorem dX0_insert_33 : decode cX0_insert 33 = .ok (.iaload, 1) := by decide +kernel
theorem dX0_insert_34 : decode cX0_insert 34 = .ok (.iastore, 1) := by decide +kernel
theorem dX0_insert_35 : decode cX0_insert 35 = .ok (.aload_n 0, 1) := by decide +kernel
theorem dX0_insert_36 : decode cX0_insert 36 = .ok (.getfield 15, 3) := by decide +kernel
theorem dX0_insert_39 : decode cX0_insert 39 = .ok (.iload_n 3, 1) := by decide +kernel
theorem dX0_insert_40 : decode cX0_insert 40 = .ok (.aload_n 0, 1) := by decide +kernel
theorem dX0_insert_41 : decode cX0_insert 41 = .ok (.getfield 15, 3) := by decide +kernel
theorem dX0_insert_44 : decode cX0_insert 44 = .ok (.iload_n 3, 1) := by decide +kernel
theorem dX0_insert_45 : decode cX0_insert 45 = .ok (.iconst 1, 1) := by decide +kernel
theorem dX0_insert_46 : decode cX0_insert 46 = .ok (.isub, 1) := by decide +kernel
theorem dX0_insert_47 : decode cX0_insert 47 = .ok (.iaload, 1) := by decide +kernel
theorem dX0_insert_48 : decode cX0_insert 48 = .ok (.iastore, 1) := by decide +kernel
theorem dX0_insert_49 : decode cX0_insert 49 = .ok (.iinc 3 (-1), 3) := by decide +kernel
theorem dX0_insert_52 : decode cX0_insert 52 = .ok (.goto (-47), 3) := by decide +kernel
theorem dX0_insert_55 : decode cX0_insert 55 = .ok (.aload_n 0, 1) := by decide +kernel
theorem dX0_insert_56 : decode cX0_insert 56 = .ok (.getfield 9, 3) := by decide +kernel
theorem dX0_insert_59 : decode cX0_insert 59 = .ok (.iload_n 3, 1) := by decide +kernel
theorem dX0_insert_60 : decode cX0_insert 60 = .ok (.iload_n 1, 1) := by decide +kernel
theorem dX0_insert_61 : decode cX0_insert 61 = .ok (.iastore, 1) := by decide +kernel
theorem dX0_insert_62 : decode cX0_insert 62 = .ok (.aload_n 0, 1) := by decide +kernel
theorem dX0_insert_63 : decode cX0_insert 63 = .ok (.getfield 15, 3) := by decide +kernel
theorem dX0_insert_66 : decode cX0_insert 66 = .ok (.iload_n 3, 1) := by decide +kernel
theorem dX0_insert_67 : decode cX0_insert 67 = .ok (.iload_n 2, 1) := by decide +kernel
theorem dX0_insert_68 : decode cX0_insert 68 = .ok (.iastore, 1) := by decide +kernel
theorem dX0_insert_69 : decode cX0_insert 69 = .ok (.aload_n 0, 1) := by decide +kernel
theorem dX0_insert_70 : decode cX0_insert 70 = .ok (.dup, 1) := by decide +kernel
theorem dX0_insert_71 : decode cX0_insert 71 = .ok (.getfield 18, 3) := by decide +kernel
theorem dX0_insert_74 : decode cX0_insert 74 = .ok (.iconst 1, 1) := by decide +kernel
theorem dX0_insert_75 : decode cX0_insert 75 = .ok (.iadd, 1) := by decide +kernel
theorem dX0_insert_76 : decode cX0_insert 76 = .ok (.putfield 18, 3) := by decide +kernel
theorem dX0_insert_79 : decode cX0_insert 79 = .ok (.return_, 1) := by decide +kernel
theorem dX0_hours_0 : decode cX0_hours 0 = .ok (.aload_n 0, 1) := by decide +kernel
theorem dX0_hours_1 : decode cX0_hours 1 = .ok (.getfield 18, 3) := by decide +kernel
theorem dX0_hours_4 : decode cX0_hours 4 = .ok (.ifCond .ne 5, 3) := by decide +kernel
theorem dX0_hours_7 : decode cX0_hours 7 = .ok (.iconst 0, 1) := by decide +kernel
theorem dX0_hours_8 : decode cX0_hours 8 = .ok (.ireturn, 1) := by decide +kernel
theorem dX0_hours_9 : decode cX0_hours 9 = .ok (.iconst 1, 1) := by decide +kernel
theorem dX0_hours_10 : decode cX0_hours 10 = .ok (.aload_n 0, 1) := by decide +kernel
theorem dX0_hours_11 : decode cX0_hours 11 = .ok (.getfield 9, 3) := by decide +kernel
theorem dX0_hours_14 : decode cX0_hours 14 = .ok (.aload_n 0, 1) := by decide +kernel
theorem dX0_hours_15 : decode cX0_hours 15 = .ok (.getfield 18, 3) := by decide +kernel
theorem dX0_hours_18 : decode cX0_hours 18 = .ok (.iconst 1, 1) := by decide +kernel
theorem dX0_hours_19 : decode cX0_hours 19 = .ok (.isub, 1) := by decide +kernel
theorem dX0_hours_20 : decode cX0_hours 20 = .ok (.iaload, 1) := by decide +kernel
theorem dX0_hours_21 : decode cX0_hours 21 = .ok (.aload_n 0, 1) := by decide +kernel
theorem dX0_hours_22 : decode cX0_hours 22 = .ok (.getfield 9, 3) := by decide +kernel
theorem dX0_hours_25 : decode cX0_hours 25 = .ok (.iconst 0, 1) := by decide +kernel
theorem dX0_hours_26 : decode cX0_hours 26 = .ok (.iaload, 1) := by decide +kernel
theorem dX0_hours_27 : decode cX0_hours 27 = .ok (.isub, 1) := by decide +kernel
theorem dX0_hours_28 : decode cX0_hours 28 = .ok (.bipush 60, 2) := by decide +kernel
theorem dX0_hours_30 : decode cX0_hours 30 = .ok (.iadd, 1) := by decide +kernel
theorem dX0_hours_31 : decode cX0_hours 31 = .ok (.iconst 1, 1) := by decide +kernel
theorem dX0_hours_32 : decode cX0_hours 32 = .ok (.isub, 1) := by decide +kernel
theorem dX0_hours_33 : decode cX0_hours 33 = .ok (.bipush 60, 2) := by decide +kernel
theorem dX0_hours_35 : decode cX0_hours 35 = .ok (.idiv, 1) := by decide +kernel
theorem dX0_hours_36 : decode cX0_hours 36 = .ok (.invokestatic 42, 3) := by decide +kernel
theorem dX0_hours_39 : decode cX0_hours 39 = .ok (.ireturn, 1) := by decide +kernel
set_option maxRecDepth 20000 in
theorem ggX0_leastBoils_X0_boilsCost : GoodIn wsX0_leastBoils wsX0_boilsCost := goodIn_r _ [8, 2, 9, 1, 10, 11, 12, 13, 14, 15, 16, 17, 18, 19, 20, 7, 21, 22, 23, 24] (by decide +kernel) (by decide +kernel)
set_option maxRecDepth 20000 in
theorem gX0_leastBoils_X0_boilsCost : GoodIn wsX0_leastBoils (wsV RX0 54 RX0 yX0_boilsCost wsX0_boilsCost) := goodIn_app (goodIn_of _ (by decide +kernel)) ggX0_leastBoils_X0_boilsCost
theorem dX0_leastBoils_0 : decode cX0_leastBoils 0 = .ok (.iconst 0, 1) := by decide +kernel
theorem dX0_leastBoils_1 : decode cX0_leastBoils 1 = .ok (.istore_n 3, 1) := by decide +kernel
theorem dX0_leastBoils_2 : decode cX0_leastBoils 2 = .ok (.ldc 50, 2) := by decide +kernel
theorem dX0_leastBoils_4 : decode cX0_leastBoils 4 = .ok (.istore 4, 2) := by decide +kernel
theorem dX0_leastBoils_6 : decode cX0_leastBoils 6 = .ok (.iconst 0, 1) := by decide +kernel
theorem dX0_leastBoils_7 : decode cX0_leastBoils 7 = .ok (.istore 5, 2) := by decide +kernel
theorem dX0_leastBoils_9 : decode cX0_leastBoils 9 = .ok (.iload 5, 2) := by decide +kernel
theorem dX0_leastBoils_11 : decode cX0_leastBoils 11 = .ok (.iconst 1, 1) := by decide +kernel
theorem dX0_leastBoils_12 : decode cX0_leastBoils 12 = .ok (.aload_n 0, 1) := by decide +kernel
theorem dX0_leastBoils_13 : decode cX0_leastBoils 13 = .ok (.getfield 18, 3) := by decide +kernel
theorem dX0_leastBoils_16 : decode cX0_leastBoils 16 = .ok (.ishl, 1) := by decide +kernel
theorem dX0_leastBoils_17 : decode cX0_leastBoils 17 = .ok (.if_icmp .ge 35, 3) := by decide +kernel
theorem dX0_leastBoils_20 : decode cX0_leastBoils 20 = .ok (.aload_n 0, 1) := by decide +kernel
theorem dX0_leastBoils_21 : decode cX0_leastBoils 21 = .ok (.iload 5, 2) := by decide +kernel
theorem dX0_leastBoils_23 : decode cX0_leastBoils 23 = .ok (.aload_n 1, 1) := by decide +kernel
theorem dX0_leastBoils_24 : decode cX0_leastBoils 24 = .ok (.getfield 51, 3) := by decide +kernel
theorem dX0_leastBoils_27 : decode cX0_leastBoils 27 = .ok (.invokevirtual 54, 3) := by decide +kernel
theorem dX0_leastBoils_30 : decode cX0_leastBoils 30 = .ok (.istore 6, 2) := by decide +kernel
theorem dX0_leastBoils_32 : decode cX0_leastBoils 32 = .ok (.iload 6, 2) := by decide +kernel
theorem dX0_leastBoils_34 : decode cX0_leastBoils 34 = .ok (.iload 4, 2) := by decide +kernel
theorem dX0_leastBoils_36 : decode cX0_leastBoils 36 = .ok (.if_icmp .ge 10, 3) := by decide +kernel
theorem dX0_leastBoils_39 : decode cX0_leastBoils 39 = .ok (.iload 6, 2) := by decide +kernel
theorem dX0_leastBoils_41 : decode cX0_leastBoils 41 = .ok (.istore 4, 2) := by decide +kernel
theorem dX0_leastBoils_43 : decode cX0_leastBoils 43 = .ok (.iload 5, 2) := by decide +kernel
theorem dX0_leastBoils_45 : decode cX0_leastBoils 45 = .ok (.istore_n 3, 1) := by decide +kernel
theorem dX0_leastBoils_46 : decode cX0_leastBoils 46 = .ok (.iinc 5 1, 3) := by decide +kernel
theorem dX0_leastBoils_49 : decode cX0_leastBoils 49 = .ok (.goto (-40), 3) := by decide +kernel
theorem dX0_leastBoils_52 : decode cX0_leastBoils 52 = .ok (.iload_n 2, 1) := by decide +kernel
theorem dX0_leastBoils_53 : decode cX0_leastBoils 53 = .ok (.ifCond .eq 8, 3) := by decide +kernel
theorem dX0_leastBoils_56 : decode cX0_leastBoils 56 = .ok (.iload 4, 2) := by decide +kernel
theorem dX0_leastBoils_58 : decode cX0_leastBoils 58 = .ok (.goto 4, 3) := by decide +kernel
theorem dX0_leastBoils_61 : decode cX0_leastBoils 61 = .ok (.iload_n 3, 1) := by decide +kernel
theorem dX0_leastBoils_62 : decode cX0_leastBoils 62 = .ok (.ireturn, 1) := by decide +kernel
set_option maxRecDepth 20000 in
theorem ggX0_boilsCost_X6_heatingMinutes : GoodIn wsX0_boilsCost wsX6_heatingMinutes := goodIn_r _ [11] (by decide +kernel) (by decide +kernel)
set_option maxRecDepth 20000 in
theorem gX0_boilsCost_X6_heatingMinutes_n58 : GoodIn wsX0_boilsCost (wsX6_heatingMinutes) := ggX0_boilsCost_X6_heatingMinutes
set_option maxRecDepth 20000 in
theorem ggX0_boilsCost_X0_waitedTill : GoodIn wsX0_boilsCost wsX0_waitedTill := goodIn_r _ [16, 1, 4, 17, 18, 19] (by decide +kernel) (by decide +kernel)
set_option maxRecDepth 20000 in
theorem gX0_boilsCost_X0_waitedTill : GoodIn wsX0_boilsCost (wsV RX0 62 RX0 yX0_waitedTill wsX0_waitedTill) := goodIn_app (goodIn_of _ (by decide +kernel)) ggX0_boilsCost_X0_waitedTill
theorem dX0_boilsCost_0 : decode cX0_boilsCost 0 = .ok (.iconst 0, 1) := by decide +kernel
theorem dX0_boilsCost_1 : decode cX0_boilsCost 1 = .ok (.istore_n 3, 1) := by decide +kernel
theorem dX0_boilsCost_2 : decode cX0_boilsCost 2 = .ok (.iconst 0, 1) := by decide +kernel
theorem dX0_boilsCost_3 : decode cX0_boilsCost 3 = .ok (.istore 4, 2) := by decide +kernel
theorem dX0_boilsCost_5 : decode cX0_boilsCost 5 = .ok (.iconst 0, 1) := by decide +kernel
theorem dX0_boilsCost_6 : decode cX0_boilsCost 6 = .ok (.istore 5, 2) := by decide +kernel
theorem dX0_boilsCost_8 : decode cX0_boilsCost 8 = .ok (.iconst 0, 1) := by decide +kernel
theorem dX0_boilsCost_9 : decode cX0_boilsCost 9 = .ok (.istore 6, 2) := by decide +kernel
theorem dX0_boilsCost_11 : decode cX0_boilsCost 11 = .ok (.iconst 0, 1) := by decide +kernel
theorem dX0_boilsCost_12 : decode cX0_boilsCost 12 = .ok (.istore 7, 2) := by decide +kernel
theorem dX0_boilsCost_14 : decode cX0_boilsCost 14 = .ok (.iload 7, 2) := by decide +kernel
theorem dX0_boilsCost_16 : decode cX0_boilsCost 16 = .ok (.aload_n 0, 1) := by decide +kernel
theorem dX0_boilsCost_17 : decode cX0_boilsCost 17 = .ok (.getfield 18, 3) := by decide +kernel
theorem dX0_boilsCost_20 : decode cX0_boilsCost 20 = .ok (.if_icmp .ge 99, 3) := by decide +kernel
theorem dX0_boilsCost_23 : decode cX0_boilsCost 23 = .ok (.iload 6, 2) := by decide +kernel
theorem dX0_boilsCost_25 : decode cX0_boilsCost 25 = .ok (.aload_n 0, 1) := by decide +kernel
theorem dX0_boilsCost_26 : decode cX0_boilsCost 26 = .ok (.getfield 15, 3) := by decide +kernel
theorem dX0_boilsCost_29 : decode cX0_boilsCost 29 = .ok (.iload 7, 2) := by decide +kernel
theorem dX0_boilsCost_31 : decode cX0_boilsCost 31 = .ok (.iaload, 1) := by decide +kernel
theorem dX0_boilsCost_32 : decode cX0_boilsCost 32 = .ok (.iadd, 1) := by decide +kernel
theorem dX0_boilsCost_33 : decode cX0_boilsCost 33 = .ok (.istore 6, 2) := by decide +kernel
theorem dX0_boilsCost_35 : decode cX0_boilsCost 35 = .ok (.iload 6, 2) := by decide +kernel
theorem dX0_boilsCost_37 : decode cX0_boilsCost 37 = .ok (.aload_n 2, 1) := by decide +kernel
theorem dX0_boilsCost_38 : decode cX0_boilsCost 38 = .ok (.iconst 0, 1) := by decide +kernel
theorem dX0_boilsCost_39 : decode cX0_boilsCost 39 = .ok (.iaload, 1) := by decide +kernel
theorem dX0_boilsCost_40 : decode cX0_boilsCost 40 = .ok (.if_icmp .le 6, 3) := by decide +kernel
theorem dX0_boilsCost_43 : decode cX0_boilsCost 43 = .ok (.ldc 50, 2) := by decide +kernel
theorem dX0_boilsCost_45 : decode cX0_boilsCost 45 = .ok (.ireturn, 1) := by decide +kernel
theorem dX0_boilsCost_46 : decode cX0_boilsCost 46 = .ok (.iload_n 1, 1) := by decide +kernel
theorem dX0_boilsCost_47 : decode cX0_boilsCost 47 = .ok (.iload 7, 2) := by decide +kernel
theorem dX0_boilsCost_49 : decode cX0_boilsCost 49 = .ok (.ishr, 1) := by decide +kernel
theorem dX0_boilsCost_50 : decode cX0_boilsCost 50 = .ok (.iconst 1, 1) := by decide +kernel
theorem dX0_boilsCost_51 : decode cX0_boilsCost 51 = .ok (.iand, 1) := by decide +kernel
theorem dX0_boilsCost_52 : decode cX0_boilsCost 52 = .ok (.iconst 1, 1) := by decide +kernel
theorem dX0_boilsCost_53 : decode cX0_boilsCost 53 = .ok (.if_icmp .ne 60, 3) := by decide +kernel
theorem dX0_boilsCost_56 : decode cX0_boilsCost 56 = .ok (.iload 4, 2) := by decide +kernel
theorem dX0_boilsCost_58 : decode cX0_boilsCost 58 = .ok (.aload_n 0, 1) := by decide +kernel
theorem dX0_boilsCost_59 : decode cX0_boilsCost 59 = .ok (.getfield 9, 3) := by decide +kernel
theorem dX0_boilsCost_62 : decode cX0_boilsCost 62 = .ok (.iload 7, 2) := by decide +kernel
theorem dX0_boilsCost_64 : decode cX0_boilsCost 64 = .ok (.iaload, 1) := by decide +kernel
theorem dX0_boilsCost_65 : decode cX0_boilsCost 65 = .ok (.invokestatic 42, 3) := by decide +kernel
theorem dX0_boilsCost_68 : decode cX0_boilsCost 68 = .ok (.aload_n 2, 1) := by decide +kernel
theorem dX0_boilsCost_69 : decode cX0_boilsCost 69 = .ok (.iconst 1, 1) := by decide +kernel
theorem dX0_boilsCost_70 : decode cX0_boilsCost 70 = .ok (.iaload, 1) := by decide +kernel
theorem dX0_boilsCost_71 : decode cX0_boilsCost 71 = .ok (.iadd, 1) := by decide +kernel
theorem dX0_boilsCost_72 : decode cX0_boilsCost 72 = .ok (.iload 6, 2) := by decide +kernel
theorem dX0_boilsCost_74 : decode cX0_boilsCost 74 = .ok (.bipush 10, 2) := by decide +kernel
theorem dX0_boilsCost_76 : decode cX0_boilsCost 76 = .ok (.aload_n 2, 1) := by decide +kernel
theorem dX0_boilsCost_77 : decode cX0_boilsCost 77 = .ok (.iconst 2, 1) := by decide +kernel
theorem dX0_boilsCost_78 : decode cX0_boilsCost 78 = .ok (.iaload, 1) := by decide +kernel
theorem dX0_boilsCost_79 : decode cX0_boilsCost 79 = .ok (.invokestatic 58, 3) := by decide +kernel
theorem dX0_boilsCost_82 : decode cX0_boilsCost 82 = .ok (.iadd, 1) := by decide +kernel
theorem dX0_boilsCost_83 : decode cX0_boilsCost 83 = .ok (.istore 4, 2) := by decide +kernel
theorem dX0_boilsCost_85 : decode cX0_boilsCost 85 = .ok (.iload_n 3, 1) := by decide +kernel
theorem dX0_boilsCost_86 : decode cX0_boilsCost 86 = .ok (.aload_n 0, 1) := by decide +kernel
theorem dX0_boilsCost_87 : decode cX0_boilsCost 87 = .ok (.iload 4, 2) := by decide +kernel
theorem dX0_boilsCost_89 : decode cX0_boilsCost 89 = .ok (.iload 5, 2) := by decide +kernel
theorem dX0_boilsCost_91 : decode cX0_boilsCost 91 = .ok (.iload 7, 2) := by decide +kernel
theorem dX0_boilsCost_93 : decode cX0_boilsCost 93 = .ok (.invokevirtual 62, 3) := by decide +kernel
theorem dX0_boilsCost_96 : decode cX0_boilsCost 96 = .ok (.aload_n 2, 1) := by decide +kernel
theorem dX0_boilsCost_97 : decode cX0_boilsCost 97 = .ok (.iconst 4, 1) := by decide +kernel
theorem dX0_boilsCost_98 : decode cX0_boilsCost 98 = .ok (.iaload, 1) := by decide +kernel
theorem dX0_boilsCost_99 : decode cX0_boilsCost 99 = .ok (.imul, 1) := by decide +kernel
theorem dX0_boilsCost_100 : decode cX0_boilsCost 100 = .ok (.iconst 3, 1) := by decide +kernel
theorem dX0_boilsCost_101 : decode cX0_boilsCost 101 = .ok (.iadd, 1) := by decide +kernel
theorem dX0_boilsCost_102 : decode cX0_boilsCost 102 = .ok (.iadd, 1) := by decide +kernel
theorem dX0_boilsCost_103 : decode cX0_boilsCost 103 = .ok (.istore_n 3, 1) := by decide +kernel
theorem dX0_boilsCost_104 : decode cX0_boilsCost 104 = .ok (.iload 7, 2) := by decide +kernel
theorem dX0_boilsCost_106 : decode cX0_boilsCost 106 = .ok (.iconst 1, 1) := by decide +kernel
theorem dX0_boilsCost_107 : decode cX0_boilsCost 107 = .ok (.iadd, 1) := by decide +kernel
theorem dX0_boilsCost_108 : decode cX0_boilsCost 108 = .ok (.istore 5, 2) := by decide +kernel
theorem dX0_boilsCost_110 : decode cX0_boilsCost 110 = .ok (.iconst 0, 1) := by decide +kernel
theorem dX0_boilsCost_111 : decode cX0_boilsCost 111 = .ok (.istore 6, 2) := by decide +kernel
theorem dX0_boilsCost_113 : decode cX0_boilsCost 113 = .ok (.iinc 7 1, 3) := by decide +kernel
theorem dX0_boilsCost_116 : decode cX0_boilsCost 116 = .ok (.goto (-102), 3) := by decide +kernel
theorem dX0_boilsCost_119 : decode cX0_boilsCost 119 = .ok (.iload 5, 2) := by decide +kernel
theorem dX0_boilsCost_121 : decode cX0_boilsCost 121 = .ok (.aload_n 0, 1) := by decide +kernel
theorem dX0_boilsCost_122 : decode cX0_boilsCost 122 = .ok (.getfield 18, 3) := by decide +kernel
theorem dX0_boilsCost_125 : decode cX0_boilsCost 125 = .ok (.if_icmp .ne 7, 3) := by decide +kernel
theorem dX0_boilsCost_128 : decode cX0_boilsCost 128 = .ok (.iload_n 3, 1) := by decide +kernel
theorem dX0_boilsCost_129 : decode cX0_boilsCost 129 = .ok (.goto 5, 3) := by decide +kernel
theorem dX0_boilsCost_132 : decode cX0_boilsCost 132 = .ok (.ldc 50, 2) := by decide +kernel
theorem dX0_boilsCost_134 : decode cX0_boilsCost 134 = .ok (.ireturn, 1) := by decide +kernel
theorem dX0_waitedTill_0 : decode cX0_waitedTill 0 = .ok (.iconst 0, 1) := by decide +kernel
theorem dX0_waitedTill_1 : decode cX0_waitedTill 1 = .ok (.istore 4, 2) := by decide +kernel
theorem dX0_waitedTill_3 : decode cX0_waitedTill 3 = .ok (.iload_n 2, 1) := by decide +kernel
theorem dX0_waitedTill_4 : decode cX0_waitedTill 4 = .ok (.istore 5, 2) := by decide +kernel
theorem dX0_waitedTill_6 : decode cX0_waitedTill 6 = .ok (.iload 5, 2) := by decide +kernel
theorem dX0_waitedTill_8 : decode cX0_waitedTill 8 = .ok (.iload_n 3, 1) := by decide +kernel
theorem dX0_waitedTill_9 : decode cX0_waitedTill 9 = .ok (.if_icmp .gt 32, 3) := by decide +kernel
theorem dX0_waitedTill_12 : decode cX0_waitedTill 12 = .ok (.iload 5, 2) := by decide +kernel
theorem dX0_waitedTill_14 : decode cX0_waitedTill 14 = .ok (.aload_n 0, 1) := by decide +kernel
theorem dX0_waitedTill_15 : decode cX0_waitedTill 15 = .ok (.getfield 18, 3) := by decide +kernel
theorem dX0_waitedTill_18 : decode cX0_waitedTill 18 = .ok (.if_icmp .ge 23, 3) := by decide +kernel
theorem dX0_waitedTill_21 : decode cX0_waitedTill 21 = .ok (.iload 4, 2) := by decide +kernel
theorem dX0_waitedTill_23 : decode cX0_waitedTill 23 = .ok (.iload_n 1, 1) := by decide +kernel
theorem dX0_waitedTill_24 : decode cX0_waitedTill 24 = .ok (.aload_n 0, 1) := by decide +kernel
theorem dX0_waitedTill_25 : decode cX0_waitedTill 25 = .ok (.getfield 9, 3) := by decide +kernel
theorem dX0_waitedTill_28 : decode cX0_waitedTill 28 = .ok (.iload 5, 2) := by decide +kernel
theorem dX0_waitedTill_30 : decode cX0_waitedTill 30 = .ok (.iaload, 1) := by decide +kernel
theorem dX0_waitedTill_31 : decode cX0_waitedTill 31 = .ok (.isub, 1) := by decide +kernel
theorem dX0_waitedTill_32 : decode cX0_waitedTill 32 = .ok (.iadd, 1) := by decide +kernel
theorem dX0_waitedTill_33 : decode cX0_waitedTill 33 = .ok (.istore 4, 2) := by decide +kernel
theorem dX0_waitedTill_35 : decode cX0_waitedTill 35 = .ok (.iinc 5 1, 3) := by decide +kernel
theorem dX0_waitedTill_38 : decode cX0_waitedTill 38 = .ok (.goto (-32), 3) := by decide +kernel
theorem dX0_waitedTill_41 : decode cX0_waitedTill 41 = .ok (.iload 4, 2) := by decide +kernel
theorem dX0_waitedTill_43 : decode cX0_waitedTill 43 = .ok (.ireturn, 1) := by decide +kernel
set_option maxRecDepth 20000 in
theorem ggX0_waitedForSeats_X0_waitedTill : GoodIn wsX0_waitedForSeats wsX0_waitedTill := goodIn_r _ [7, 1, 2, 8, 9, 10] (by decide +kernel) (by decide +kernel)
set_option maxRecDepth 20000 in
theorem gX0_waitedForSeats_X0_waitedTill : GoodIn wsX0_waitedForSeats (wsV RX0 62 RX0 yX0_waitedTill wsX0_waitedTill) := goodIn_app (goodIn_of _ (by decide +kernel)) ggX0_waitedForSeats_X0_waitedTill
theorem dX0_waitedForSeats_0 : decode cX0_waitedForSeats 0 = .ok (.iconst 0, 1) := by decide +kernel
theorem dX0_waitedForSeats_1 : decode cX0_waitedForSeats 1 = .ok (.istore_n 3, 1) := by decide +kernel
theorem dX0_waitedForSeats_2 : decode cX0_waitedForSeats 2 = .ok (.iconst 0, 1) := by decide +kernel
theorem dX0_waitedForSeats_3 : decode cX0_waitedForSeats 3 = .ok (.istore 4, 2) := by decide +kernel
theorem dX0_waitedForSeats_5 : decode cX0_waitedForSeats 5 = .ok (.iconst 0, 1) := by decide +kernel
theorem dX0_waitedForSeats_6 : decode cX0_waitedForSeats 6 = .ok (.istore 5, 2) := by decide +kernel
theorem dX0_waitedForSeats_8 : decode cX0_waitedForSeats 8 = .ok (.iload 5, 2) := by decide +kernel
theorem dX0_waitedForSeats_10 : decode cX0_waitedForSeats 10 = .ok (.aload_n 0, 1) := by decide +kernel
theorem dX0_waitedForSeats_11 : decode cX0_waitedForSeats 11 = .ok (.getfield 18, 3) := by decide +kernel
theorem dX0_waitedForSeats_14 : decode cX0_waitedForSeats 14 = .ok (.if_icmp .ge 44, 3) := by decide +kernel
theorem dX0_waitedForSeats_17 : decode cX0_waitedForSeats 17 = .ok (.iload 5, 2) := by decide +kernel
theorem dX0_waitedForSeats_19 : decode cX0_waitedForSeats 19 = .ok (.iload 4, 2) := by decide +kernel
theorem dX0_waitedForSeats_21 : decode cX0_waitedForSeats 21 = .ok (.isub, 1) := by decide +kernel
theorem dX0_waitedForSeats_22 : decode cX0_waitedForSeats 22 = .ok (.iconst 1, 1) := by decide +kernel
theorem dX0_waitedForSeats_23 : decode cX0_waitedForSeats 23 = .ok (.iadd, 1) := by decide +kernel
theorem dX0_waitedForSeats_24 : decode cX0_waitedForSeats 24 = .ok (.iload_n 1, 1) := by decide +kernel
theorem dX0_waitedForSeats_25 : decode cX0_waitedForSeats 25 = .ok (.if_icmp .ne 27, 3) := by decide +kernel
theorem dX0_waitedForSeats_28 : decode cX0_waitedForSeats 28 = .ok (.iload_n 3, 1) := by decide +kernel
theorem dX0_waitedForSeats_29 : decode cX0_waitedForSeats 29 = .ok (.aload_n 0, 1) := by decide +kernel
theorem dX0_waitedForSeats_30 : decode cX0_waitedForSeats 30 = .ok (.aload_n 0, 1) := by decide +kernel
theorem dX0_waitedForSeats_31 : decode cX0_waitedForSeats 31 = .ok (.getfield 9, 3) := by decide +kernel
theorem dX0_waitedForSeats_34 : decode cX0_waitedForSeats 34 = .ok (.iload 5, 2) := by decide +kernel
theorem dX0_waitedForSeats_36 : decode cX0_waitedForSeats 36 = .ok (.iaload, 1) := by decide +kernel
theorem dX0_waitedForSeats_37 : decode cX0_waitedForSeats 37 = .ok (.iload 4, 2) := by decide +kernel
theorem dX0_waitedForSeats_39 : decode cX0_waitedForSeats 39 = .ok (.iload 5, 2) := by decide +kernel
theorem dX0_waitedForSeats_41 : decode cX0_waitedForSeats 41 = .ok (.invokevirtual 62, 3) := by decide +kernel
theorem dX0_waitedForSeats_44 : decode cX0_waitedForSeats 44 = .ok (.iadd, 1) := by decide +kernel
theorem dX0_waitedForSeats_45 : decode cX0_waitedForSeats 45 = .ok (.istore_n 3, 1) := by decide +kernel
theorem dX0_waitedForSeats_46 : decode cX0_waitedForSeats 46 = .ok (.iload 5, 2) := by decide +kernel
theorem dX0_waitedForSeats_48 : decode cX0_waitedForSeats 48 = .ok (.iconst 1, 1) := by decide +kernel
theorem dX0_waitedForSeats_49 : decode cX0_waitedForSeats 49 = .ok (.iadd, 1) := by decide +kernel
theorem dX0_waitedForSeats_50 : decode cX0_waitedForSeats 50 = .ok (.istore 4, 2) := by decide +kernel
theorem dX0_waitedForSeats_52 : decode cX0_waitedForSeats 52 = .ok (.iinc 5 1, 3) := by decide +kernel
theorem dX0_waitedForSeats_55 : decode cX0_waitedForSeats 55 = .ok (.goto (-47), 3) := by decide +kernel
theorem dX0_waitedForSeats_58 : decode cX0_waitedForSeats 58 = .ok (.iload 4, 2) := by decide +kernel
theorem dX0_waitedForSeats_60 : decode cX0_waitedForSeats 60 = .ok (.aload_n 0, 1) := by decide +kernel
theorem dX0_waitedForSeats_61 : decode cX0_waitedForSeats 61 = .ok (.getfield 18, 3) := by decide +kernel
theorem dX0_waitedForSeats_64 : decode cX0_waitedForSeats 64 = .ok (.if_icmp .ge 31, 3) := by decide +kernel
theorem dX0_waitedForSeats_67 : decode cX0_waitedForSeats 67 = .ok (.iload_n 3, 1) := by decide +kernel
theorem dX0_waitedForSeats_68 : decode cX0_waitedForSeats 68 = .ok (.aload_n 0, 1) := by decide +kernel
theorem dX0_waitedForSeats_69 : decode cX0_waitedForSeats 69 = .ok (.aload_n 0, 1) := by decide +kernel
theorem dX0_waitedForSeats_70 : decode cX0_waitedForSeats 70 = .ok (.getfield 9, 3) := by decide +kernel
theorem dX0_waitedForSeats_73 : decode cX0_waitedForSeats 73 = .ok (.aload_n 0, 1) := by decide +kernel
theorem dX0_waitedForSeats_74 : decode cX0_waitedForSeats 74 = .ok (.getfield 18, 3) := by decide +kernel
theorem dX0_waitedForSeats_77 : decode cX0_waitedForSeats 77 = .ok (.iconst 1, 1) := by decide +kernel
theorem dX0_waitedForSeats_78 : decode cX0_waitedForSeats 78 = .ok (.isub, 1) := by decide +kernel
theorem dX0_waitedForSeats_79 : decode cX0_waitedForSeats 79 = .ok (.iaload, 1) := by decide +kernel
theorem dX0_waitedForSeats_80 : decode cX0_waitedForSeats 80 = .ok (.iload_n 2, 1) := by decide +kernel
theorem dX0_waitedForSeats_81 : decode cX0_waitedForSeats 81 = .ok (.iadd, 1) := by decide +kernel
theorem dX0_waitedForSeats_82 : decode cX0_waitedForSeats 82 = .ok (.iload 4, 2) := by decide +kernel
theorem dX0_waitedForSeats_84 : decode cX0_waitedForSeats 84 = .ok (.aload_n 0, 1) := by decide +kernel
theorem dX0_waitedForSeats_85 : decode cX0_waitedForSeats 85 = .ok (.getfield 18, 3) := by decide +kernel
theorem dX0_waitedForSeats_88 : decode cX0_waitedForSeats 88 = .ok (.iconst 1, 1) := by decide +kernel
theorem dX0_waitedForSeats_89 : decode cX0_waitedForSeats 89 = .ok (.isub, 1) := by decide +kernel
theorem dX0_waitedForSeats_90 : decode cX0_waitedForSeats 90 = .ok (.invokevirtual 62, 3) := by decide +kernel
theorem dX0_waitedForSeats_93 : decode cX0_waitedForSeats 93 = .ok (.iadd, 1) := by decide +kernel
theorem dX0_waitedForSeats_94 : decode cX0_waitedForSeats 94 = .ok (.istore_n 3, 1) := by decide +kernel
theorem dX0_waitedForSeats_95 : decode cX0_waitedForSeats 95 = .ok (.iload_n 3, 1) := by decide +kernel
theorem dX0_waitedForSeats_96 : decode cX0_waitedForSeats 96 = .ok (.ireturn, 1) := by decide +kernel
set_option maxRecDepth 20000 in
theorem ggX0_waitedForTimes_J9_floorMod_7cf53 : GoodIn wsX0_waitedForTimes wsJ9_floorMod_7cf53 := goodIn_r _ [6] (by decide +kernel) (by decide +kernel)
set_option maxRecDepth 20000 in
theorem gX0_waitedForTimes_J9_floorMod_7cf53 : GoodIn wsX0_waitedForTimes (va_wsS RX0 65 yJ9_floorMod_7cf53 wsJ9_floorMod_7cf53) := goodIn_app (goodIn_of _ (by decide +kernel)) ggX0_waitedForTimes_J9_floorMod_7cf53
theorem dX0_waitedForTimes_0 : decode cX0_waitedForTimes 0 = .ok (.iconst 0, 1) := by decide +kernel
theorem dX0_waitedForTimes_1 : decode cX0_waitedForTimes 1 = .ok (.istore_n 2, 1) := by decide +kernel
theorem dX0_waitedForTimes_2 : decode cX0_waitedForTimes 2 = .ok (.iconst 0, 1) := by decide +kernel
theorem dX0_waitedForTimes_3 : decode cX0_waitedForTimes 3 = .ok (.istore_n 3, 1) := by decide +kernel
theorem dX0_waitedForTimes_4 : decode cX0_waitedForTimes 4 = .ok (.iload_n 3, 1) := by decide +kernel
theorem dX0_waitedForTimes_5 : decode cX0_waitedForTimes 5 = .ok (.aload_n 0, 1) := by decide +kernel
theorem dX0_waitedForTimes_6 : decode cX0_waitedForTimes 6 = .ok (.getfield 18, 3) := by decide +kernel
theorem dX0_waitedForTimes_9 : decode cX0_waitedForTimes 9 = .ok (.if_icmp .ge 27, 3) := by decide +kernel
theorem dX0_waitedForTimes_12 : decode cX0_waitedForTimes 12 = .ok (.iload_n 1, 1) := by decide +kernel
theorem dX0_waitedForTimes_13 : decode cX0_waitedForTimes 13 = .ok (.ifCond .le 23, 3) := by decide +kernel
theorem dX0_waitedForTimes_16 : decode cX0_waitedForTimes 16 = .ok (.iload_n 2, 1) := by decide +kernel
theorem dX0_waitedForTimes_17 : decode cX0_waitedForTimes 17 = .ok (.aload_n 0, 1) := by decide +kernel
theorem dX0_waitedForTimes_18 : decode cX0_waitedForTimes 18 = .ok (.getfield 9, 3) := by decide +kernel
theorem dX0_waitedForTimes_21 : decode cX0_waitedForTimes 21 = .ok (.iload_n 3, 1) := by decide +kernel
theorem dX0_waitedForTimes_22 : decode cX0_waitedForTimes 22 = .ok (.iaload, 1) := by decide +kernel
theorem dX0_waitedForTimes_23 : decode cX0_waitedForTimes 23 = .ok (.ineg, 1) := by decide +kernel
theorem dX0_waitedForTimes_24 : decode cX0_waitedForTimes 24 = .ok (.iload_n 1, 1) := by decide +kernel
theorem dX0_waitedForTimes_25 : decode cX0_waitedForTimes 25 = .ok (.invokestatic 65, 3) := by decide +kernel
theorem dX0_waitedForTimes_28 : decode cX0_waitedForTimes 28 = .ok (.iadd, 1) := by decide +kernel
theorem dX0_waitedForTimes_29 : decode cX0_waitedForTimes 29 = .ok (.istore_n 2, 1) := by decide +kernel
theorem dX0_waitedForTimes_30 : decode cX0_waitedForTimes 30 = .ok (.iinc 3 1, 3) := by decide +kernel
theorem dX0_waitedForTimes_33 : decode cX0_waitedForTimes 33 = .ok (.goto (-29), 3) := by decide +kernel
theorem dX0_waitedForTimes_36 : decode cX0_waitedForTimes 36 = .ok (.iload_n 2, 1) := by decide +kernel
theorem dX0_waitedForTimes_37 : decode cX0_waitedForTimes 37 = .ok (.ireturn, 1) := by decide +kernel
set_option maxRecDepth 20000 in
theorem ggX0_bestSeats_X0_waitedForTimes : GoodIn wsX0_bestSeats wsX0_waitedForTimes := goodIn_r _ [5, 6, 7, 8, 9, 10, 11, 20, 21, 22] (by decide +kernel) (by decide +kernel)
set_option maxRecDepth 20000 in
theorem gX0_bestSeats_X0_waitedForTimes : GoodIn wsX0_bestSeats (wsV RX0 68 RX0 yX0_waitedForTimes wsX0_waitedForTimes) := goodIn_app (goodIn_of _ (by decide +kernel)) ggX0_bestSeats_X0_waitedForTimes
set_option maxRecDepth 20000 in
theorem ggX0_bestSeats_X0_waitedForSeats : GoodIn wsX0_bestSeats wsX0_waitedForSeats := goodIn_r _ [15, 6, 7, 16, 17, 18, 4, 19, 20, 21, 22] (by decide +kernel) (by decide +kernel)
set_option maxRecDepth 20000 in
theorem gX0_bestSeats_X0_waitedForSeats : GoodIn wsX0_bestSeats (wsV RX0 72 RX0 yX0_waitedForSeats wsX0_waitedForSeats) := goodIn_app (goodIn_of _ (by decide +kernel)) ggX0_bestSeats_X0_waitedForSeats
theorem dX0_bestSeats_0 : decode cX0_bestSeats 0 = .ok (.bipush (-9), 2) := by decide +kernel
theorem dX0_bestSeats_2 : decode cX0_bestSeats 2 = .ok (.istore_n 2, 1) := by decide +kernel
theorem dX0_bestSeats_3 : decode cX0_bestSeats 3 = .ok (.iconst 0, 1) := by decide +kernel
theorem dX0_bestSeats_4 : decode cX0_bestSeats 4 = .ok (.istore_n 3, 1) := by decide +kernel
theorem dX0_bestSeats_5 : decode cX0_bestSeats 5 = .ok (.iconst 1, 1) := by decide +kernel
theorem dX0_bestSeats_6 : decode cX0_bestSeats 6 = .ok (.istore 4, 2) := by decide +kernel
theorem dX0_bestSeats_8 : decode cX0_bestSeats 8 = .ok (.iload 4, 2) := by decide +kernel
theorem dX0_bestSeats_10 : decode cX0_bestSeats 10 = .ok (.bipush 8, 2) := by decide +kernel
theorem dX0_bestSeats_12 : decode cX0_bestSeats 12 = .ok (.if_icmp .gt 36, 3) := by decide +kernel
theorem dX0_bestSeats_15 : decode cX0_bestSeats 15 = .ok (.aload_n 0, 1) := by decide +kernel
theorem dX0_bestSeats_16 : decode cX0_bestSeats 16 = .ok (.iload_n 1, 1) := by decide +kernel
theorem dX0_bestSeats_17 : decode cX0_bestSeats 17 = .ok (.invokevirtual 68, 3) := by decide +kernel
theorem dX0_bestSeats_20 : decode cX0_bestSeats 20 = .ok (.aload_n 0, 1) := by decide +kernel
theorem dX0_bestSeats_21 : decode cX0_bestSeats 21 = .ok (.iload 4, 2) := by decide +kernel
theorem dX0_bestSeats_23 : decode cX0_bestSeats 23 = .ok (.iload_n 1, 1) := by decide +kernel
theorem dX0_bestSeats_24 : decode cX0_bestSeats 24 = .ok (.invokevirtual 72, 3) := by decide +kernel
theorem dX0_bestSeats_27 : decode cX0_bestSeats 27 = .ok (.isub, 1) := by decide +kernel
theorem dX0_bestSeats_28 : decode cX0_bestSeats 28 = .ok (.istore 5, 2) := by decide +kernel
theorem dX0_bestSeats_30 : decode cX0_bestSeats 30 = .ok (.iload 5, 2) := by decide +kernel
theorem dX0_bestSeats_32 : decode cX0_bestSeats 32 = .ok (.iload_n 3, 1) := by decide +kernel
theorem dX0_bestSeats_33 : decode cX0_bestSeats 33 = .ok (.if_icmp .le 9, 3) := by decide +kernel
theorem dX0_bestSeats_36 : decode cX0_bestSeats 36 = .ok (.iload 5, 2) := by decide +kernel
theorem dX0_bestSeats_38 : decode cX0_bestSeats 38 = .ok (.istore_n 3, 1) := by decide +kernel
theorem dX0_bestSeats_39 : decode cX0_bestSeats 39 = .ok (.iload 4, 2) := by decide +kernel
theorem dX0_bestSeats_41 : decode cX0_bestSeats 41 = .ok (.istore_n 2, 1) := by decide +kernel
theorem dX0_bestSeats_42 : decode cX0_bestSeats 42 = .ok (.iinc 4 1, 3) := by decide +kernel
theorem dX0_bestSeats_45 : decode cX0_bestSeats 45 = .ok (.goto (-37), 3) := by decide +kernel
theorem dX0_bestSeats_48 : decode cX0_bestSeats 48 = .ok (.iload_n 2, 1) := by decide +kernel
theorem dX0_bestSeats_49 : decode cX0_bestSeats 49 = .ok (.ireturn, 1) := by decide +kernel
theorem dX1_init_0 : decode cX1_init 0 = .ok (.aload_n 0, 1) := by decide +kernel
theorem dX1_init_1 : decode cX1_init 1 = .ok (.invokespecial 3, 3) := by decide +kernel
theorem dX1_init_4 : decode cX1_init 4 = .ok (.return_, 1) := by decide +kernel
set_option maxRecDepth 20000 in
theorem ggX1_copy_X1_become : GoodIn wsX1_copy wsX1_become := goodIn_r _ [12, 1, 2, 13, 14, 15, 16, 17, 18, 19] (by decide +kernel) (by decide +kernel)
set_option maxRecDepth 20000 in
theorem gX1_copy_X1_become : GoodIn wsX1_copy (wsV RX1 18 RX1 yX1_become wsX1_become) := goodIn_app (goodIn_of _ (by decide +kernel)) ggX1_copy_X1_become
theorem dX1_copy_0 : decode cX1_copy 0 = .ok (.aload_n 0, 1) := by decide +kernel
theorem dX1_copy_1 : decode cX1_copy 1 = .ok (.aload_n 1, 1) := by decide +kernel
theorem dX1_copy_2 : decode cX1_copy 2 = .ok (.getfield 9, 3) := by decide +kernel
theorem dX1_copy_5 : decode cX1_copy 5 = .ok (.aload_n 1, 1) := by decide +kernel
theorem dX1_copy_6 : decode cX1_copy 6 = .ok (.getfield 15, 3) := by decide +kernel
theorem dX1_copy_9 : decode cX1_copy 9 = .ok (.invokevirtual 18, 3) := by decide +kernel
theorem dX1_copy_12 : decode cX1_copy 12 = .ok (.aload_n 0, 1) := by decide +kernel
theorem dX1_copy_13 : decode cX1_copy 13 = .ok (.aload_n 1, 1) := by decide +kernel
theorem dX1_copy_14 : decode cX1_copy 14 = .ok (.getfield 22, 3) := by decide +kernel
theorem dX1_copy_17 : decode cX1_copy 17 = .ok (.putfield 22, 3) := by decide +kernel
theorem dX1_copy_20 : decode cX1_copy 20 = .ok (.aload_n 0, 1) := by decide +kernel
theorem dX1_copy_21 : decode cX1_copy 21 = .ok (.aload_n 1, 1) := by decide +kernel
theorem dX1_copy_22 : decode cX1_copy 22 = .ok (.getfield 25, 3) := by decide +kernel
theorem dX1_copy_25 : decode cX1_copy 25 = .ok (.putfield 25, 3) := by decide +kernel
theorem dX1_copy_28 : decode cX1_copy 28 = .ok (.aload_n 0, 1) := by decide +kernel
theorem dX1_copy_29 : decode cX1_copy 29 = .ok (.aload_n 1, 1) := by decide +kernel
theorem dX1_copy_30 : decode cX1_copy 30 = .ok (.getfield 28, 3) := by decide +kernel
theorem dX1_copy_33 : decode cX1_copy 33 = .ok (.putfield 28, 3) := by decide +kernel
theorem dX1_copy_36 : decode cX1_copy 36 = .ok (.aload_n 0, 1) := by decide +kernel
theorem dX1_copy_37 : decode cX1_copy 37 = .ok (.aload_n 1, 1) := by decide +kernel
theorem dX1_copy_38 : decode cX1_copy 38 = .ok (.getfield 31, 3) := by decide +kernel
theorem dX1_copy_41 : decode cX1_copy 41 = .ok (.putfield 31, 3) := by decide +kernel
theorem dX1_copy_44 : decode cX1_copy 44 = .ok (.aload_n 0, 1) := by decide +kernel
theorem dX1_copy_45 : decode cX1_copy 45 = .ok (.aload_n 1, 1) := by decide +kernel
theorem dX1_copy_46 : decode cX1_copy 46 = .ok (.getfield 34, 3) := by decide +kernel
theorem dX1_copy_49 : decode cX1_copy 49 = .ok (.putfield 34, 3) := by decide +kernel
theorem dX1_copy_52 : decode cX1_copy 52 = .ok (.return_, 1) := by decide +kernel
theorem dX1_become_0 : decode cX1_become 0 = .ok (.aload_n 0, 1) := by decide +kernel
theorem dX1_become_1 : decode cX1_become 1 = .ok (.iload_n 1, 1) := by decide +kernel
theorem dX1_become_2 : decode cX1_become 2 = .ok (.putfield 9, 3) := by decide +kernel
theorem dX1_become_5 : decode cX1_become 5 = .ok (.aload_n 0, 1) := by decide +kernel
theorem dX1_become_6 : decode cX1_become 6 = .ok (.iload_n 2, 1) := by decide +kernel
theorem dX1_become_7 : decode cX1_become 7 = .ok (.putfield 15, 3) := by decide +kernel
theorem dX1_become_10 : decode cX1_become 10 = .ok (.return_, 1) := by decide +kernel
theorem dX1_waited_0 : decode cX1_waited 0 = .ok (.aload_n 0, 1) := by decide +kernel
theorem dX1_waited_1 : decode cX1_waited 1 = .ok (.getfield 31, 3) := by decide +kernel
theorem dX1_waited_4 : decode cX1_waited 4 = .ok (.iconst 2, 1) := by decide +kernel
theorem dX1_waited_5 : decode cX1_waited 5 = .ok (.if_icmp .ne 13, 3) := by decide +kernel
theorem dX1_waited_8 : decode cX1_waited 8 = .ok (.aload_n 0, 1) := by decide +kernel
theorem dX1_waited_9 : decode cX1_waited 9 = .ok (.getfield 34, 3) := by decide +kernel
theorem dX1_waited_12 : decode cX1_waited 12 = .ok (.aload_n 0, 1) := by decide +kernel
theorem dX1_waited_13 : decode cX1_waited 13 = .ok (.getfield 22, 3) := by decide +kernel
theorem dX1_waited_16 : decode cX1_waited 16 = .ok (.isub, 1) := by decide +kernel
theorem dX1_waited_17 : decode cX1_waited 17 = .ok (.ireturn, 1) := by decide +kernel
theorem dX1_waited_18 : decode cX1_waited 18 = .ok (.aload_n 0, 1) := by decide +kernel
theorem dX1_waited_19 : decode cX1_waited 19 = .ok (.getfield 31, 3) := by decide +kernel
theorem dX1_waited_22 : decode cX1_waited 22 = .ok (.iconst 3, 1) := by decide +kernel
theorem dX1_waited_23 : decode cX1_waited 23 = .ok (.if_icmp .ne 10, 3) := by decide +kernel
theorem dX1_waited_26 : decode cX1_waited 26 = .ok (.aload_n 0, 1) := by decide +kernel
theorem dX1_waited_27 : decode cX1_waited 27 = .ok (.getfield 28, 3) := by decide +kernel
theorem dX1_waited_30 : decode cX1_waited 30 = .ok (.goto 4, 3) := by decide +kernel
theorem dX1_waited_33 : decode cX1_waited 33 = .ok (.iconst 0, 1) := by decide +kernel
theorem dX1_waited_34 : decode cX1_waited 34 = .ok (.ireturn, 1) := by decide +kernel
set_option maxRecDepth 20000 in
theorem ggX1_tell_X1_waited : GoodIn wsX1_tell wsX1_waited := goodIn_r _ [11, 6, 12, 3, 5, 13, 14, 15, 16, 17, 18, 19] (by decide +kernel) (by decide +kernel)
set_option maxRecDepth 20000 in
theorem gX1_tell_X1_waited : GoodIn wsX1_tell (wsV RX1 37 RX1 yX1_waited wsX1_waited) := goodIn_app (goodIn_of _ (by decide +kernel)) ggX1_tell_X1_waited
theorem dX1_tell_0 : decode cX1_tell 0 = .ok (.iload_n 1, 1) := by decide +kernel
theorem dX1_tell_1 : decode cX1_tell 1 = .ok (.tableswitch 69 0 5 #[39, 44, 49, 54, 59, 64], 39) := by decide +kernel
theorem dX1_tell_40 : decode cX1_tell 40 = .ok (.aload_n 0, 1) := by decide +kernel
theorem dX1_tell_41 : decode cX1_tell 41 = .ok (.getfield 9, 3) := by decide +kernel
theorem dX1_tell_44 : decode cX1_tell 44 = .ok (.ireturn, 1) := by decide +kernel
theorem dX1_tell_45 : decode cX1_tell 45 = .ok (.aload_n 0, 1) := by decide +kernel
theorem dX1_tell_46 : decode cX1_tell 46 = .ok (.getfield 15, 3) := by decide +kernel
theorem dX1_tell_49 : decode cX1_tell 49 = .ok (.ireturn, 1) := by decide +kernel
theorem dX1_tell_50 : decode cX1_tell 50 = .ok (.aload_n 0, 1) := by decide +kernel
theorem dX1_tell_51 : decode cX1_tell 51 = .ok (.getfield 22, 3) := by decide +kernel
theorem dX1_tell_54 : decode cX1_tell 54 = .ok (.ireturn, 1) := by decide +kernel
theorem dX1_tell_55 : decode cX1_tell 55 = .ok (.aload_n 0, 1) := by decide +kernel
theorem dX1_tell_56 : decode cX1_tell 56 = .ok (.getfield 25, 3) := by decide +kernel
theorem dX1_tell_59 : decode cX1_tell 59 = .ok (.ireturn, 1) := by decide +kernel
theorem dX1_tell_60 : decode cX1_tell 60 = .ok (.aload_n 0, 1) := by decide +kernel
theorem dX1_tell_61 : decode cX1_tell 61 = .ok (.getfield 28, 3) := by decide +kernel
theorem dX1_tell_64 : decode cX1_tell 64 = .ok (.ireturn, 1) := by decide +kernel
theorem dX1_tell_65 : decode cX1_tell 65 = .ok (.aload_n 0, 1) := by decide +kernel
theorem dX1_tell_66 : decode cX1_tell 66 = .ok (.getfield 31, 3) := by decide +kernel
theorem dX1_tell_69 : decode cX1_tell 69 = .ok (.ireturn, 1) := by decide +kernel
theorem dX1_tell_70 : decode cX1_tell 70 = .ok (.aload_n 0, 1) := by decide +kernel
theorem dX1_tell_71 : decode cX1_tell 71 = .ok (.invokevirtual 37, 3) := by decide +kernel
theorem dX1_tell_74 : decode cX1_tell 74 = .ok (.ireturn, 1) := by decide +kernel
set_option maxRecDepth 20000 in
theorem ggX2_init_X1_init : GoodIn wsX2_init wsX1_init := goodIn_r _ [22, 23, 2, 3] (by decide +kernel) (by decide +kernel)
set_option maxRecDepth 20000 in
theorem gX2_init_X1_init_n29 : GoodIn wsX2_init (wsX1_init) := ggX2_init_X1_init
set_option maxRecDepth 20000 in
theorem ggX2_init_X3_init : GoodIn wsX2_init wsX3_init := goodIn_r _ [25, 26, 2, 3] (by decide +kernel) (by decide +kernel)
set_option maxRecDepth 20000 in
theorem gX2_init_X3_init_n36 : GoodIn wsX2_init (wsX3_init) := ggX2_init_X3_init
theorem dX2_init_0 : decode cX2_init 0 = .ok (.aload_n 0, 1) := by decide +kernel
theorem dX2_init_1 : decode cX2_init 1 = .ok (.invokespecial 3, 3) := by decide +kernel
theorem dX2_init_4 : decode cX2_init 4 = .ok (.aload_n 0, 1) := by decide +kernel
theorem dX2_init_5 : decode cX2_init 5 = .ok (.getstatic 9, 3) := by decide +kernel
theorem dX2_init_8 : decode cX2_init 8 = .ok (.invokevirtual 13, 3) := by decide +kernel
theorem dX2_init_11 : decode cX2_init 11 = .ok (.checkcast 14, 3) := by decide +kernel
theorem dX2_init_14 : decode cX2_init 14 = .ok (.putfield 18, 3) := by decide +kernel
theorem dX2_init_17 : decode cX2_init 17 = .ok (.aload_n 0, 1) := by decide +kernel
theorem dX2_init_18 : decode cX2_init 18 = .ok (.bipush 8, 2) := by decide +kernel
theorem dX2_init_20 : decode cX2_init 20 = .ok (.anewarray 23, 3) := by decide +kernel
theorem dX2_init_23 : decode cX2_init 23 = .ok (.putfield 25, 3) := by decide +kernel
theorem dX2_init_26 : decode cX2_init 26 = .ok (.iconst 0, 1) := by decide +kernel
theorem dX2_init_27 : decode cX2_init 27 = .ok (.istore_n 1, 1) := by decide +kernel
theorem dX2_init_28 : decode cX2_init 28 = .ok (.iload_n 1, 1) := by decide +kernel
theorem dX2_init_29 : decode cX2_init 29 = .ok (.aload_n 0, 1) := by decide +kernel
theorem dX2_init_30 : decode cX2_init 30 = .ok (.getfield 25, 3) := by decide +kernel
theorem dX2_init_33 : decode cX2_init 33 = .ok (.arraylength, 1) := by decide +kernel
theorem dX2_init_34 : decode cX2_init 34 = .ok (.if_icmp .ge 22, 3) := by decide +kernel
theorem dX2_init_37 : decode cX2_init 37 = .ok (.aload_n 0, 1) := by decide +kernel
theorem dX2_init_38 : decode cX2_init 38 = .ok (.getfield 25, 3) := by decide +kernel
theorem dX2_init_41 : decode cX2_init 41 = .ok (.iload_n 1, 1) := by decide +kernel
theorem dX2_init_42 : decode cX2_init 42 = .ok (.new 23, 3) := by decide +kernel
theorem dX2_init_45 : decode cX2_init 45 = .ok (.dup, 1) := by decide +kernel
theorem dX2_init_46 : decode cX2_init 46 = .ok (.invokespecial 29, 3) := by decide +kernel
theorem dX2_init_49 : decode cX2_init 49 = .ok (.aastore, 1) := by decide +kernel
theorem dX2_init_50 : decode cX2_init 50 = .ok (.iinc 1 1, 3) := by decide +kernel
theorem dX2_init_53 : decode cX2_init 53 = .ok (.goto (-25), 3) := by decide +kernel
theorem dX2_init_56 : decode cX2_init 56 = .ok (.aload_n 0, 1) := by decide +kernel
theorem dX2_init_57 : decode cX2_init 57 = .ok (.iconst 2, 1) := by decide +kernel
theorem dX2_init_58 : decode cX2_init 58 = .ok (.anewarray 30, 3) := by decide +kernel
theorem dX2_init_61 : decode cX2_init 61 = .ok (.putfield 32, 3) := by decide +kernel
theorem dX2_init_64 : decode cX2_init 64 = .ok (.iconst 0, 1) := by decide +kernel
theorem dX2_init_65 : decode cX2_init 65 = .ok (.istore_n 1, 1) := by decide +kernel
theorem dX2_init_66 : decode cX2_init 66 = .ok (.iload_n 1, 1) := by decide +kernel
theorem dX2_init_67 : decode cX2_init 67 = .ok (.aload_n 0, 1) := by decide +kernel
theorem dX2_init_68 : decode cX2_init 68 = .ok (.getfield 32, 3) := by decide +kernel
theorem dX2_init_71 : decode cX2_init 71 = .ok (.arraylength, 1) := by decide +kernel
theorem dX2_init_72 : decode cX2_init 72 = .ok (.if_icmp .ge 22, 3) := by decide +kernel
theorem dX2_init_75 : decode cX2_init 75 = .ok (.aload_n 0, 1) := by decide +kernel
theorem dX2_init_76 : decode cX2_init 76 = .ok (.getfield 32, 3) := by decide +kernel
theorem dX2_init_79 : decode cX2_init 79 = .ok (.iload_n 1, 1) := by decide +kernel
theorem dX2_init_80 : decode cX2_init 80 = .ok (.new 30, 3) := by decide +kernel
theorem dX2_init_83 : decode cX2_init 83 = .ok (.dup, 1) := by decide +kernel
theorem dX2_init_84 : decode cX2_init 84 = .ok (.invokespecial 36, 3) := by decide +kernel
theorem dX2_init_87 : decode cX2_init 87 = .ok (.aastore, 1) := by decide +kernel
theorem dX2_init_88 : decode cX2_init 88 = .ok (.iinc 1 1, 3) := by decide +kernel
theorem dX2_init_91 : decode cX2_init 91 = .ok (.goto (-25), 3) := by decide +kernel
theorem dX2_init_94 : decode cX2_init 94 = .ok (.aload_n 0, 1) := by decide +kernel
theorem dX2_init_95 : decode cX2_init 95 = .ok (.bipush 8, 2) := by decide +kernel
theorem dX2_init_97 : decode cX2_init 97 = .ok (.newarray .int, 2) := by decide +kernel
theorem dX2_init_99 : decode cX2_init 99 = .ok (.putfield 37, 3) := by decide +kernel
theorem dX2_init_102 : decode cX2_init 102 = .ok (.return_, 1) := by decide +kernel
set_option maxRecDepth 20000 in
theorem ggX2_copy_X1_copy : GoodIn wsX2_copy wsX1_copy := goodIn_r _ [16, 17, 18, 19, 20, 21, 22, 23, 24, 25, 26, 15, 27, 46, 47, 48, 49, 50, 51, 52] (by decide +kernel) (by decide +kernel)
set_option maxRecDepth 20000 in
theorem gX2_copy_X1_copy : GoodIn wsX2_copy (wsV RX2 56 RX1 yX1_copy wsX1_copy) := goodIn_app (goodIn_of _ (by decide +kernel)) ggX2_copy_X1_copy
set_option maxRecDepth 20000 in
theorem ggX2_copy_X3_copy : GoodIn wsX2_copy wsX3_copy := goodIn_r _ [32, 33, 34, 35, 36, 37, 53, 54, 55, 56, 57] (by decide +kernel) (by decide +kernel)
set_option maxRecDepth 20000 in
theorem gX2_copy_X3_copy : GoodIn wsX2_copy (wsV RX2 60 RX3 yX3_copy wsX3_copy) := goodIn_app (goodIn_of _ (by decide +kernel)) ggX2_copy_X3_copy
theorem dX2_copy_0 : decode cX2_copy 0 = .ok (.aload_n 1, 1) := by decide +kernel
theorem dX2_copy_1 : decode cX2_copy 1 = .ok (.getfield 18, 3) := by decide +kernel
theorem dX2_copy_4 : decode cX2_copy 4 = .ok (.iconst 0, 1) := by decide +kernel
theorem dX2_copy_5 : decode cX2_copy 5 = .ok (.aload_n 0, 1) := by decide +kernel
theorem dX2_copy_6 : decode cX2_copy 6 = .ok (.getfield 18, 3) := by decide +kernel
theorem dX2_copy_9 : decode cX2_copy 9 = .ok (.iconst 0, 1) := by decide +kernel
theorem dX2_copy_10 : decode cX2_copy 10 = .ok (.aload_n 0, 1) := by decide +kernel
theorem dX2_copy_11 : decode cX2_copy 11 = .ok (.getfield 18, 3) := by decide +kernel
theorem dX2_copy_14 : decode cX2_copy 14 = .ok (.arraylength, 1) := by decide +kernel
theorem dX2_copy_15 : decode cX2_copy 15 = .ok (.invokestatic 40, 3) := by decide +kernel
theorem dX2_copy_18 : decode cX2_copy 18 = .ok (.aload_n 1, 1) := by decide +kernel
theorem dX2_copy_19 : decode cX2_copy 19 = .ok (.getfield 37, 3) := by decide +kernel
theorem dX2_copy_22 : decode cX2_copy 22 = .ok (.iconst 0, 1) := by decide +kernel
theorem dX2_copy_23 : decode cX2_copy 23 = .ok (.aload_n 0, 1) := by decide +kernel
theorem dX2_copy_24 : decode cX2_copy 24 = .ok (.getfield 37, 3) := by decide +kernel
theorem dX2_copy_27 : decode cX2_copy 27 = .ok (.iconst 0, 1) := by decide +kernel
theorem dX2_copy_28 : decode cX2_copy 28 = .ok (.aload_n 0, 1) := by decide +kernel
theorem dX2_copy_29 : decode cX2_copy 29 = .ok (.getfield 37, 3) := by decide +kernel
theorem dX2_copy_32 : decode cX2_copy 32 = .ok (.arraylength, 1) := by decide +kernel
theorem dX2_copy_33 : decode cX2_copy 33 = .ok (.invokestatic 40, 3) := by decide +kernel
theorem dX2_copy_36 : decode cX2_copy 36 = .ok (.aload_n 0, 1) := by decide +kernel
theorem dX2_copy_37 : decode cX2_copy 37 = .ok (.aload_n 1, 1) := by decide +kernel
theorem dX2_copy_38 : decode cX2_copy 38 = .ok (.getfield 46, 3) := by decide +kernel
theorem dX2_copy_41 : decode cX2_copy 41 = .ok (.putfield 46, 3) := by decide +kernel
theorem dX2_copy_44 : decode cX2_copy 44 = .ok (.aload_n 0, 1) := by decide +kernel
theorem dX2_copy_45 : decode cX2_copy 45 = .ok (.aload_n 1, 1) := by decide +kernel
theorem dX2_copy_46 : decode cX2_copy 46 = .ok (.getfield 50, 3) := by decide +kernel
theorem dX2_copy_49 : decode cX2_copy 49 = .ok (.putfield 50, 3) := by decide +kernel
theorem dX2_copy_52 : decode cX2_copy 52 = .ok (.aload_n 0, 1) := by decide +kernel
theorem dX2_copy_53 : decode cX2_copy 53 = .ok (.aload_n 1, 1) := by decide +kernel
theorem dX2_copy_54 : decode cX2_copy 54 = .ok (.getfield 53, 3) := by decide +kernel
theorem dX2_copy_57 : decode cX2_copy 57 = .ok (.putfield 53, 3) := by decide +kernel
theorem dX2_copy_60 : decode cX2_copy 60 = .ok (.iconst 0, 1) := by decide +kernel
theorem dX2_copy_61 : decode cX2_copy 61 = .ok (.istore_n 2, 1) := by decide +kernel
theorem dX2_copy_62 : decode cX2_copy 62 = .ok (.iload_n 2, 1) := by decide +kernel
theorem dX2_copy_63 : decode cX2_copy 63 = .ok (.aload_n 0, 1) := by decide +kernel
theorem dX2_copy_64 : decode cX2_copy 64 = .ok (.getfield 46, 3) := by decide +kernel
theorem dX2_copy_67 : decode cX2_copy 67 = .ok (.if_icmp .ge 24, 3) := by decide +kernel
theorem dX2_copy_70 : decode cX2_copy 70 = .ok (.aload_n 0, 1) := by decide +kernel
theorem dX2_copy_71 : decode cX2_copy 71 = .ok (.getfield 25, 3) := by decide +kernel
theorem dX2_copy_74 : decode cX2_copy 74 = .ok (.iload_n 2, 1) := by decide +kernel
theorem dX2_copy_75 : decode cX2_copy 75 = .ok (.aaload, 1) := by decide +kernel
theorem dX2_copy_76 : decode cX2_copy 76 = .ok (.aload_n 1, 1) := by decide +kernel
theorem dX2_copy_77 : decode cX2_copy 77 = .ok (.getfield 25, 3) := by decide +kernel
theorem dX2_copy_80 : decode cX2_copy 80 = .ok (.iload_n 2, 1) := by decide +kernel
theorem dX2_copy_81 : decode cX2_copy 81 = .ok (.aaload, 1) := by decide +kernel
theorem dX2_copy_82 : decode cX2_copy 82 = .ok (.invokevirtual 56, 3) := by decide +kernel
theorem dX2_copy_85 : decode cX2_copy 85 = .ok (.iinc 2 1, 3) := by decide +kernel
theorem dX2_copy_88 : decode cX2_copy 88 = .ok (.goto (-26), 3) := by decide +kernel
theorem dX2_copy_91 : decode cX2_copy 91 = .ok (.iconst 0, 1) := by decide +kernel
theorem dX2_copy_92 : decode cX2_copy 92 = .ok (.istore_n 2, 1) := by decide +kernel
theorem dX2_copy_93 : decode cX2_copy 93 = .ok (.iload_n 2, 1) := by decide +kernel
theorem dX2_copy_94 : decode cX2_copy 94 = .ok (.aload_n 0, 1) := by decide +kernel
theorem dX2_copy_95 : decode cX2_copy 95 = .ok (.getfield 32, 3) := by decide +kernel
theorem dX2_copy_98 : decode cX2_copy 98 = .ok (.arraylength, 1) := by decide +kernel
theorem dX2_copy_99 : decode cX2_copy 99 = .ok (.if_icmp .ge 24, 3) := by decide +kernel
theorem dX2_copy_102 : decode cX2_copy 102 = .ok (.aload_n 0, 1) := by decide +kernel
theorem dX2_copy_103 : decode cX2_copy 103 = .ok (.getfield 32, 3) := by decide +kernel
theorem dX2_copy_106 : decode cX2_copy 106 = .ok (.iload_n 2, 1) := by decide +kernel
theorem dX2_copy_107 : decode cX2_copy 107 = .ok (.aaload, 1) := by decide +kernel
theorem dX2_copy_108 : decode cX2_copy 108 = .ok (.aload_n 1, 1) := by decide +kernel
theorem dX2_copy_109 : decode cX2_copy 109 = .ok (.getfield 32, 3) := by decide +kernel
theorem dX2_copy_112 : decode cX2_copy 112 = .ok (.iload_n 2, 1) := by decide +kernel
theorem dX2_copy_113 : decode cX2_copy 113 = .ok (.aaload, 1) := by decide +kernel
theorem dX2_copy_114 : decode cX2_copy 114 = .ok (.invokevirtual 60, 3) := by decide +kernel
theorem dX2_copy_117 : decode cX2_copy 117 = .ok (.iinc 2 1, 3) := by decide +kernel
theorem dX2_copy_120 : decode cX2_copy 120 = .ok (.goto (-27), 3) := by decide +kernel
theorem dX2_copy_123 : decode cX2_copy 123 = .ok (.return_, 1) := by decide +kernel
set_option maxRecDepth 20000 in
theorem ggX2_begin_X3_begin : GoodIn wsX2_begin wsX3_begin := goodIn_r _ [11, 12, 13, 14, 15, 31, 32, 33, 34, 35] (by decide +kernel) (by decide +kernel)
set_option maxRecDepth 20000 in
theorem gX2_begin_X3_begin : GoodIn wsX2_begin (wsV RX2 66 RX3 yX3_begin wsX3_begin) := goodIn_app (goodIn_of _ (by decide +kernel)) ggX2_begin_X3_begin
theorem dX2_begin_0 : decode cX2_begin 0 = .ok (.aload_n 0, 1) := by decide +kernel
theorem dX2_begin_1 : decode cX2_begin 1 = .ok (.iconst 0, 1) := by decide +kernel
theorem dX2_begin_2 : decode cX2_begin 2 = .ok (.putfield 53, 3) := by decide +kernel
theorem dX2_begin_5 : decode cX2_begin 5 = .ok (.aload_n 0, 1) := by decide +kernel
theorem dX2_begin_6 : decode cX2_begin 6 = .ok (.iconst 0, 1) := by decide +kernel
theorem dX2_begin_7 : decode cX2_begin 7 = .ok (.putfield 50, 3) := by decide +kernel
theorem dX2_begin_10 : decode cX2_begin 10 = .ok (.iconst 0, 1) := by decide +kernel
theorem dX2_begin_11 : decode cX2_begin 11 = .ok (.istore_n 1, 1) := by decide +kernel
theorem dX2_begin_12 : decode cX2_begin 12 = .ok (.iload_n 1, 1) := by decide +kernel
theorem dX2_begin_13 : decode cX2_begin 13 = .ok (.aload_n 0, 1) := by decide +kernel
theorem dX2_begin_14 : decode cX2_begin 14 = .ok (.getfield 46, 3) := by decide +kernel
theorem dX2_begin_17 : decode cX2_begin 17 = .ok (.if_icmp .ge 19, 3) := by decide +kernel
theorem dX2_begin_20 : decode cX2_begin 20 = .ok (.aload_n 0, 1) := by decide +kernel
theorem dX2_begin_21 : decode cX2_begin 21 = .ok (.getfield 25, 3) := by decide +kernel
theorem dX2_begin_24 : decode cX2_begin 24 = .ok (.iload_n 1, 1) := by decide +kernel
theorem dX2_begin_25 : decode cX2_begin 25 = .ok (.aaload, 1) := by decide +kernel
theorem dX2_begin_26 : decode cX2_begin 26 = .ok (.iconst 0, 1) := by decide +kernel
theorem dX2_begin_27 : decode cX2_begin 27 = .ok (.putfield 63, 3) := by decide +kernel
theorem dX2_begin_30 : decode cX2_begin 30 = .ok (.iinc 1 1, 3) := by decide +kernel
theorem dX2_begin_33 : decode cX2_begin 33 = .ok (.goto (-21), 3) := by decide +kernel
theorem dX2_begin_36 : decode cX2_begin 36 = .ok (.iconst 0, 1) := by decide +kernel
theorem dX2_begin_37 : decode cX2_begin 37 = .ok (.istore_n 1, 1) := by decide +kernel
theorem dX2_begin_38 : decode cX2_begin 38 = .ok (.iload_n 1, 1) := by decide +kernel
theorem dX2_begin_39 : decode cX2_begin 39 = .ok (.aload_n 0, 1) := by decide +kernel
theorem dX2_begin_40 : decode cX2_begin 40 = .ok (.getfield 32, 3) := by decide +kernel
theorem dX2_begin_43 : decode cX2_begin 43 = .ok (.arraylength, 1) := by decide +kernel
theorem dX2_begin_44 : decode cX2_begin 44 = .ok (.if_icmp .ge 18, 3) := by decide +kernel
theorem dX2_begin_47 : decode cX2_begin 47 = .ok (.aload_n 0, 1) := by decide +kernel
theorem dX2_begin_48 : decode cX2_begin 48 = .ok (.getfield 32, 3) := by decide +kernel
theorem dX2_begin_51 : decode cX2_begin 51 = .ok (.iload_n 1, 1) := by decide +kernel
theorem dX2_begin_52 : decode cX2_begin 52 = .ok (.aaload, 1) := by decide +kernel
theorem dX2_begin_53 : decode cX2_begin 53 = .ok (.invokevirtual 66, 3) := by decide +kernel
theorem dX2_begin_56 : decode cX2_begin 56 = .ok (.iinc 1 1, 3) := by decide +kernel
theorem dX2_begin_59 : decode cX2_begin 59 = .ok (.goto (-21), 3) := by decide +kernel
theorem dX2_begin_62 : decode cX2_begin 62 = .ok (.return_, 1) := by decide +kernel
theorem dX2_hasComer_0 : decode cX2_hasComer 0 = .ok (.iload_n 1, 1) := by decide +kernel
theorem dX2_hasComer_1 : decode cX2_hasComer 1 = .ok (.ifCond .lt 15, 3) := by decide +kernel
theorem dX2_hasComer_4 : decode cX2_hasComer 4 = .ok (.iload_n 1, 1) := by decide +kernel
theorem dX2_hasComer_5 : decode cX2_hasComer 5 = .ok (.aload_n 0, 1) := by decide +kernel
theorem dX2_hasComer_6 : decode cX2_hasComer 6 = .ok (.getfield 46, 3) := by decide +kernel
theorem dX2_hasComer_9 : decode cX2_hasComer 9 = .ok (.if_icmp .ge 7, 3) := by decide +kernel
theorem dX2_hasComer_12 : decode cX2_hasComer 12 = .ok (.iconst 1, 1) := by decide +kernel
theorem dX2_hasComer_13 : decode cX2_hasComer 13 = .ok (.goto 4, 3) := by decide +kernel
theorem dX2_hasComer_16 : decode cX2_hasComer 16 = .ok (.iconst 0, 1) := by decide +kernel
theorem dX2_hasComer_17 : decode cX2_hasComer 17 = .ok (.ireturn, 1) := by decide +kernel
theorem dX2_kettlesInUse_0 : decode cX2_kettlesInUse 0 = .ok (.aload_n 0, 1) := by decide +kernel
theorem dX2_kettlesInUse_1 : decode cX2_kettlesInUse 1 = .ok (.getfield 18, 3) := by decide +kernel
theorem dX2_kettlesInUse_4 : decode cX2_kettlesInUse 4 = .ok (.bipush 7, 2) := by decide +kernel
theorem dX2_kettlesInUse_6 : decode cX2_kettlesInUse 6 = .ok (.iaload, 1) := by decide +kernel
theorem dX2_kettlesInUse_7 : decode cX2_kettlesInUse 7 = .ok (.ireturn, 1) := by decide +kernel
set_option maxRecDepth 20000 in
theorem ggX2_settingRefusal_X2_highestLevel : GoodIn wsX2_settingRefusal wsX2_highestLevel := goodIn_r _ [7, 8, 9, 10, 11, 12, 13, 14, 15, 16, 6, 17, 1, 18, 19, 20, 21, 22, 23, 24, 25, 26, 27, 28, 29, 30] (by decide +kernel) (by decide +kernel)
set_option maxRecDepth 20000 in
theorem gX2_settingRefusal_X2_highestLevel : GoodIn wsX2_settingRefusal (wsV RX2 75 RX2 yX2_highestLevel wsX2_highestLevel) := goodIn_app (goodIn_of _ (by decide +kernel)) ggX2_settingRefusal_X2_highestLevel
theorem dX2_settingRefusal_0 : decode cX2_settingRefusal 0 = .ok (.iload_n 1, 1) := by decide +kernel
theorem dX2_settingRefusal_1 : decode cX2_settingRefusal 1 = .ok (.ifCond .lt 12, 3) := by decide +kernel
theorem dX2_settingRefusal_4 : decode cX2_settingRefusal 4 = .ok (.iload_n 1, 1) := by decide +kernel
theorem dX2_settingRefusal_5 : decode cX2_settingRefusal 5 = .ok (.aload_n 0, 1) := by decide +kernel
theorem dX2_settingRefusal_6 : decode cX2_settingRefusal 6 = .ok (.getfield 18, 3) := by decide +kernel
theorem dX2_settingRefusal_9 : decode cX2_settingRefusal 9 = .ok (.arraylength, 1) := by decide +kernel
theorem dX2_settingRefusal_10 : decode cX2_settingRefusal 10 = .ok (.if_icmp .lt 5, 3) := by decide +kernel
theorem dX2_settingRefusal_13 : decode cX2_settingRefusal 13 = .ok (.iconst (-1), 1) := by decide +kernel
theorem dX2_settingRefusal_14 : decode cX2_settingRefusal 14 = .ok (.ireturn, 1) := by decide +kernel
theorem dX2_settingRefusal_15 : decode cX2_settingRefusal 15 = .ok (.iload_n 2, 1) := by decide +kernel
theorem dX2_settingRefusal_16 : decode cX2_settingRefusal 16 = .ok (.getstatic 69, 3) := by decide +kernel
theorem dX2_settingRefusal_19 : decode cX2_settingRefusal 19 = .ok (.iload_n 1, 1) := by decide +kernel
theorem dX2_settingRefusal_20 : decode cX2_settingRefusal 20 = .ok (.iaload, 1) := by decide +kernel
theorem dX2_settingRefusal_21 : decode cX2_settingRefusal 21 = .ok (.if_icmp .ge 6, 3) := by decide +kernel
theorem dX2_settingRefusal_24 : decode cX2_settingRefusal 24 = .ok (.bipush (-4), 2) := by decide +kernel
theorem dX2_settingRefusal_26 : decode cX2_settingRefusal 26 = .ok (.ireturn, 1) := by decide +kernel
theorem dX2_settingRefusal_27 : decode cX2_settingRefusal 27 = .ok (.iload_n 2, 1) := by decide +kernel
theorem dX2_settingRefusal_28 : decode cX2_settingRefusal 28 = .ok (.getstatic 72, 3) := by decide +kernel
theorem dX2_settingRefusal_31 : decode cX2_settingRefusal 31 = .ok (.iload_n 1, 1) := by decide +kernel
theorem dX2_settingRefusal_32 : decode cX2_settingRefusal 32 = .ok (.iaload, 1) := by decide +kernel
theorem dX2_settingRefusal_33 : decode cX2_settingRefusal 33 = .ok (.if_icmp .le 6, 3) := by decide +kernel
theorem dX2_settingRefusal_36 : decode cX2_settingRefusal 36 = .ok (.bipush (-6), 2) := by decide +kernel
theorem dX2_settingRefusal_38 : decode cX2_settingRefusal 38 = .ok (.ireturn, 1) := by decide +kernel
theorem dX2_settingRefusal_39 : decode cX2_settingRefusal 39 = .ok (.iload_n 1, 1) := by decide +kernel
theorem dX2_settingRefusal_40 : decode cX2_settingRefusal 40 = .ok (.ifCond .ne 15, 3) := by decide +kernel
theorem dX2_settingRefusal_43 : decode cX2_settingRefusal 43 = .ok (.iload_n 2, 1) := by decide +kernel
theorem dX2_settingRefusal_44 : decode cX2_settingRefusal 44 = .ok (.aload_n 0, 1) := by decide +kernel
theorem dX2_settingRefusal_45 : decode cX2_settingRefusal 45 = .ok (.invokevirtual 75, 3) := by decide +kernel
theorem dX2_settingRefusal_48 : decode cX2_settingRefusal 48 = .ok (.if_icmp .ge 7, 3) := by decide +kernel
theorem dX2_settingRefusal_51 : decode cX2_settingRefusal 51 = .ok (.iconst 1, 1) := by decide +kernel
theorem dX2_settingRefusal_52 : decode cX2_settingRefusal 52 = .ok (.goto 4, 3) := by decide +kernel
theorem dX2_settingRefusal_55 : decode cX2_settingRefusal 55 = .ok (.iconst 0, 1) := by decide +kernel
theorem dX2_settingRefusal_56 : decode cX2_settingRefusal 56 = .ok (.istore_n 3, 1) := by decide +kernel
theorem dX2_settingRefusal_57 : decode cX2_settingRefusal 57 = .ok (.iload_n 1, 1) := by decide +kernel
theorem dX2_settingRefusal_58 : decode cX2_settingRefusal 58 = .ok (.bipush 7, 2) := by decide +kernel
theorem dX2_settingRefusal_60 : decode cX2_settingRefusal 60 = .ok (.if_icmp .ne 25, 3) := by decide +kernel
theorem dX2_settingRefusal_63 : decode cX2_settingRefusal 63 = .ok (.iload_n 2, 1) := by decide +kernel
theorem dX2_settingRefusal_64 : decode cX2_settingRefusal 64 = .ok (.aload_n 0, 1) := by decide +kernel
theorem dX2_settingRefusal_65 : decode cX2_settingRefusal 65 = .ok (.getfield 18, 3) := by decide +kernel
theorem dX2_settingRefusal_68 : decode cX2_settingRefusal 68 = .ok (.bipush 7, 2) := by decide +kernel
theorem dX2_settingRefusal_70 : decode cX2_settingRefusal 70 = .ok (.iaload, 1) := by decide +kernel
theorem dX2_settingRefusal_71 : decode cX2_settingRefusal 71 = .ok (.if_icmp .eq 14, 3) := by decide +kernel
theorem dX2_settingRefusal_74 : decode cX2_settingRefusal 74 = .ok (.aload_n 0, 1) := by decide +kernel
theorem dX2_settingRefusal_75 : decode cX2_settingRefusal 75 = .ok (.getfield 53, 3) := by decide +kernel
theorem dX2_settingRefusal_78 : decode cX2_settingRefusal 78 = .ok (.ifCond .eq 7, 3) := by decide +kernel
theorem dX2_settingRefusal_81 : decode cX2_settingRefusal 81 = .ok (.iconst 1, 1) := by decide +kernel
theorem dX2_settingRefusal_82 : decode cX2_settingRefusal 82 = .ok (.goto 4, 3) := by decide +kernel
theorem dX2_settingRefusal_85 : decode cX2_settingRefusal 85 = .ok (.iconst 0, 1) := by decide +kernel
theorem dX2_settingRefusal_86 : decode cX2_settingRefusal 86 = .ok (.istore 4, 2) := by decide +kernel
theorem dX2_settingRefusal_88 : decode cX2_settingRefusal 88 = .ok (.iload_n 3, 1) := by decide +kernel
theorem dX2_settingRefusal_89 : decode cX2_settingRefusal 89 = .ok (.ifCond .ne 8, 3) := by decide +kernel
theorem dX2_settingRefusal_92 : decode cX2_settingRefusal 92 = .ok (.iload 4, 2) := by decide +kernel
theorem dX2_settingRefusal_94 : decode cX2_settingRefusal 94 = .ok (.ifCond .eq 8, 3) := by decide +kernel
theorem dX2_settingRefusal_97 : decode cX2_settingRefusal 97 = .ok (.bipush (-3), 2) := by decide +kernel
theorem dX2_settingRefusal_99 : decode cX2_settingRefusal 99 = .ok (.goto 4, 3) := by decide +kernel
theorem dX2_settingRefusal_102 : decode cX2_settingRefusal 102 = .ok (.iconst 0, 1) := by decide +kernel
theorem dX2_settingRefusal_103 : decode cX2_settingRefusal 103 = .ok (.ireturn, 1) := by decide +kernel
theorem dX2_change_0 : decode cX2_change 0 = .ok (.aload_n 0, 1) := by decide +kernel
theorem dX2_change_1 : decode cX2_change 1 = .ok (.getfield 18, 3) := by decide +kernel
theorem dX2_change_4 : decode cX2_change 4 = .ok (.iload_n 1, 1) := by decide +kernel
theorem dX2_change_5 : decode cX2_change 5 = .ok (.iaload, 1) := by decide +kernel
theorem dX2_change_6 : decode cX2_change 6 = .ok (.istore_n 3, 1) := by decide +kernel
theorem dX2_change_7 : decode cX2_change 7 = .ok (.aload_n 0, 1) := by decide +kernel
theorem dX2_change_8 : decode cX2_change 8 = .ok (.getfield 18, 3) := by decide +kernel
theorem dX2_change_11 : decode cX2_change 11 = .ok (.iload_n 1, 1) := by decide +kernel
theorem dX2_change_12 : decode cX2_change 12 = .ok (.iload_n 2, 1) := by decide +kernel
theorem dX2_change_13 : decode cX2_change 13 = .ok (.iastore, 1) := by decide +kernel
theorem dX2_change_14 : decode cX2_change 14 = .ok (.iload_n 3, 1) := by decide +kernel
theorem dX2_change_15 : decode cX2_change 15 = .ok (.ireturn, 1) := by decide +kernel
set_option maxRecDepth 20000 in
theorem ggX2_add_X1_become : GoodIn wsX2_add wsX1_become := goodIn_r _ [12, 13, 14, 23, 24, 25, 26, 27, 28, 29] (by decide +kernel) (by decide +kernel)
set_option maxRecDepth 20000 in
theorem gX2_add_X1_become : GoodIn wsX2_add (wsV RX2 79 RX1 yX1_become wsX1_become) := goodIn_app (goodIn_of _ (by decide +kernel)) ggX2_add_X1_become
theorem dX2_add_0 : decode cX2_add 0 = .ok (.aload_n 0, 1) := by decide +kernel
theorem dX2_add_1 : decode cX2_add 1 = .ok (.getfield 46, 3) := by decide +kernel
theorem dX2_add_4 : decode cX2_add 4 = .ok (.aload_n 0, 1) := by decide +kernel
theorem dX2_add_5 : decode cX2_add 5 = .ok (.getfield 25, 3) := by decide +kernel
theorem dX2_add_8 : decode cX2_add 8 = .ok (.arraylength, 1) := by decide +kernel
theorem dX2_add_9 : decode cX2_add 9 = .ok (.if_icmp .ge 46, 3) := by decide +kernel
theorem dX2_add_12 : decode cX2_add 12 = .ok (.iload_n 1, 1) := by decide +kernel
theorem dX2_add_13 : decode cX2_add 13 = .ok (.bipush 7, 2) := by decide +kernel
theorem dX2_add_15 : decode cX2_add 15 = .ok (.if_icmp .ge 40, 3) := by decide +kernel
theorem dX2_add_18 : decode cX2_add 18 = .ok (.iload_n 3, 1) := by decide +kernel
theorem dX2_add_19 : decode cX2_add 19 = .ok (.bipush 120, 2) := by decide +kernel
theorem dX2_add_21 : decode cX2_add 21 = .ok (.if_icmp .ge 34, 3) := by decide +kernel
theorem dX2_add_24 : decode cX2_add 24 = .ok (.iload_n 3, 1) := by decide +kernel
theorem dX2_add_25 : decode cX2_add 25 = .ok (.aload_n 0, 1) := by decide +kernel
theorem dX2_add_26 : decode cX2_add 26 = .ok (.getfield 53, 3) := by decide +kernel
theorem dX2_add_29 : decode cX2_add 29 = .ok (.if_icmp .lt 26, 3) := by decide +kernel
theorem dX2_add_32 : decode cX2_add 32 = .ok (.iload 4, 2) := by decide +kernel
theorem dX2_add_34 : decode cX2_add 34 = .ok (.iconst 1, 1) := by decide +kernel
theorem dX2_add_35 : decode cX2_add 35 = .ok (.if_icmp .lt 20, 3) := by decide +kernel
theorem dX2_add_38 : decode cX2_add 38 = .ok (.iload 4, 2) := by decide +kernel
theorem dX2_add_40 : decode cX2_add 40 = .ok (.iconst 3, 1) := by decide +kernel
theorem dX2_add_41 : decode cX2_add 41 = .ok (.if_icmp .gt 14, 3) := by decide +kernel
theorem dX2_add_44 : decode cX2_add 44 = .ok (.iload 5, 2) := by decide +kernel
theorem dX2_add_46 : decode cX2_add 46 = .ok (.bipush 30, 2) := by decide +kernel
theorem dX2_add_48 : decode cX2_add 48 = .ok (.if_icmp .gt 7, 3) := by decide +kernel
theorem dX2_add_51 : decode cX2_add 51 = .ok (.iconst 1, 1) := by decide +kernel
theorem dX2_add_52 : decode cX2_add 52 = .ok (.goto 4, 3) := by decide +kernel
theorem dX2_add_55 : decode cX2_add 55 = .ok (.iconst 0, 1) := by decide +kernel
theorem dX2_add_56 : decode cX2_add 56 = .ok (.istore 6, 2) := by decide +kernel
theorem dX2_add_58 : decode cX2_add 58 = .ok (.iload 6, 2) := by decide +kernel
theorem dX2_add_60 : decode cX2_add 60 = .ok (.ifCond .eq 57, 3) := by decide +kernel
theorem dX2_add_63 : decode cX2_add 63 = .ok (.aload_n 0, 1) := by decide +kernel
theorem dX2_add_64 : decode cX2_add 64 = .ok (.getfield 25, 3) := by decide +kernel
theorem dX2_add_67 : decode cX2_add 67 = .ok (.aload_n 0, 1) := by decide +kernel
theorem dX2_add_68 : decode cX2_add 68 = .ok (.getfield 46, 3) := by decide +kernel
theorem dX2_add_71 : decode cX2_add 71 = .ok (.aaload, 1) := by decide +kernel
theorem dX2_add_72 : decode cX2_add 72 = .ok (.astore 7, 2) := by decide +kernel
theorem dX2_add_74 : decode cX2_add 74 = .ok (.aload 7, 2) := by decide +kernel
theorem dX2_add_76 : decode cX2_add 76 = .ok (.iload_n 1, 1) := by decide +kernel
theorem dX2_add_77 : decode cX2_add 77 = .ok (.iload_n 2, 1) := by decide +kernel
theorem dX2_add_78 : decode cX2_add 78 = .ok (.invokevirtual 79, 3) := by decide +kernel
theorem dX2_add_81 : decode cX2_add 81 = .ok (.aload 7, 2) := by decide +kernel
theorem dX2_add_83 : decode cX2_add 83 = .ok (.iload_n 3, 1) := by decide +kernel
theorem dX2_add_84 : decode cX2_add 84 = .ok (.putfield 83, 3) := by decide +kernel
theorem dX2_add_87 : decode cX2_add 87 = .ok (.aload 7, 2) := by decide +kernel
theorem dX2_add_89 : decode cX2_add 89 = .ok (.iload 4, 2) := by decide +kernel
theorem dX2_add_91 : decode cX2_add 91 = .ok (.putfield 84, 3) := by decide +kernel
theorem dX2_add_94 : decode cX2_add 94 = .ok (.aload 7, 2) := by decide +kernel
theorem dX2_add_96 : decode cX2_add 96 = .ok (.iload 5, 2) := by decide +kernel
theorem dX2_add_98 : decode cX2_add 98 = .ok (.putfield 87, 3) := by decide +kernel
theorem dX2_add_101 : decode cX2_add 101 = .ok (.aload 7, 2) := by decide +kernel
theorem dX2_add_103 : decode cX2_add 103 = .ok (.iconst 0, 1) := by decide +kernel
theorem dX2_add_104 : decode cX2_add 104 = .ok (.putfield 63, 3) := by decide +kernel
theorem dX2_add_107 : decode cX2_add 107 = .ok (.aload_n 0, 1) := by decide +kernel
theorem dX2_add_108 : decode cX2_add 108 = .ok (.dup, 1) := by decide +kernel
theorem dX2_add_109 : decode cX2_add 109 = .ok (.getfield 46, 3) := by decide +kernel
theorem dX2_add_112 : decode cX2_add 112 = .ok (.iconst 1, 1) := by decide +kernel
theorem dX2_add_113 : decode cX2_add 113 = .ok (.iadd, 1) := by decide +kernel
theorem dX2_add_114 : decode cX2_add 114 = .ok (.putfield 46, 3) := by decide +kernel
theorem dX2_add_117 : decode cX2_add 117 = .ok (.iload 6, 2) := by decide +kernel
theorem dX2_add_119 : decode cX2_add 119 = .ok (.ireturn, 1) := by decide +kernel
set_option maxRecDepth 20000 in
theorem ggX2_isOver_X2_comersWith : GoodIn wsX2_isOver wsX2_comersWith := goodIn_r _ [7, 8, 9, 10, 27, 28, 29, 30, 31, 32, 33, 34, 35, 36, 37, 38, 39, 40, 41] (by decide +kernel) (by decide +kernel)
set_option maxRecDepth 20000 in
theorem gX2_isOver_X2_comersWith : GoodIn wsX2_isOver (wsV RX2 90 RX2 yX2_comersWith wsX2_comersWith) := goodIn_app (goodIn_of _ (by decide +kernel)) ggX2_isOver_X2_comersWith
set_option maxRecDepth 20000 in
theorem ggX2_isOver_X2_allFree : GoodIn wsX2_isOver wsX2_allFree := goodIn_r _ [14, 15, 1, 16, 17, 18, 6, 19, 20, 21, 22, 23, 24, 25, 26, 27, 28, 29, 30, 31, 32, 33, 34, 42, 43, 44, 45, 46] (by decide +kernel) (by decide +kernel)
set_option maxRecDepth 20000 in
theorem gX2_isOver_X2_allFree : GoodIn wsX2_isOver (wsV RX2 94 RX2 yX2_allFree wsX2_allFree) := goodIn_app (goodIn_of _ (by decide +kernel)) ggX2_isOver_X2_allFree
theorem dX2_isOver_0 : decode cX2_isOver 0 = .ok (.aload_n 0, 1) := by decide +kernel
theorem dX2_isOver_1 : decode cX2_isOver 1 = .ok (.getfield 53, 3) := by decide +kernel
theorem dX2_isOver_4 : decode cX2_isOver 4 = .ok (.sipush 180, 3) := by decide +kernel
theorem dX2_isOver_7 : decode cX2_isOver 7 = .ok (.if_icmp .ge 25, 3) := by decide +kernel
theorem dX2_isOver_10 : decode cX2_isOver 10 = .ok (.aload_n 0, 1) := by decide +kernel
theorem dX2_isOver_11 : decode cX2_isOver 11 = .ok (.getfield 50, 3) := by decide +kernel
theorem dX2_isOver_14 : decode cX2_isOver 14 = .ok (.ifCond .ne 22, 3) := by decide +kernel
theorem dX2_isOver_17 : decode cX2_isOver 17 = .ok (.aload_n 0, 1) := by decide +kernel
theorem dX2_isOver_18 : decode cX2_isOver 18 = .ok (.iconst 0, 1) := by decide +kernel
theorem dX2_isOver_19 : decode cX2_isOver 19 = .ok (.invokevirtual 90, 3) := by decide +kernel
theorem dX2_isOver_22 : decode cX2_isOver 22 = .ok (.ifCond .ne 14, 3) := by decide +kernel
theorem dX2_isOver_25 : decode cX2_isOver 25 = .ok (.aload_n 0, 1) := by decide +kernel
theorem dX2_isOver_26 : decode cX2_isOver 26 = .ok (.invokevirtual 94, 3) := by decide +kernel
theorem dX2_isOver_29 : decode cX2_isOver 29 = .ok (.ifCond .eq 7, 3) := by decide +kernel
theorem dX2_isOver_32 : decode cX2_isOver 32 = .ok (.iconst 1, 1) := by decide +kernel
theorem dX2_isOver_33 : decode cX2_isOver 33 = .ok (.goto 4, 3) := by decide +kernel
theorem dX2_isOver_36 : decode cX2_isOver 36 = .ok (.iconst 0, 1) := by decide +kernel
theorem dX2_isOver_37 : decode cX2_isOver 37 = .ok (.ireturn, 1) := by decide +kernel
set_option maxRecDepth 20000 in
theorem ggX2_allFree_X2_kettlesInUse : GoodIn wsX2_allFree wsX2_kettlesInUse := goodIn_r _ [7, 8, 15, 16, 17, 18, 19, 20, 21, 22] (by decide +kernel) (by decide +kernel)
set_option maxRecDepth 20000 in
theorem gX2_allFree_X2_kettlesInUse : GoodIn wsX2_allFree (wsV RX2 98 RX2 yX2_kettlesInUse wsX2_kettlesInUse) := goodIn_app (goodIn_of _ (by decide +kernel)) ggX2_allFree_X2_kettlesInUse
set_option maxRecDepth 20000 in
theorem ggX2_allFree_X3_isFree : GoodIn wsX2_allFree wsX3_isFree := goodIn_r _ [13, 14, 23, 24, 25, 26, 27] (by decide +kernel) (by decide +kernel)
set_option maxRecDepth 20000 in
theorem gX2_allFree_X3_isFree : GoodIn wsX2_allFree (wsV RX2 101 RX3 yX3_isFree wsX3_isFree) := goodIn_app (goodIn_of _ (by decide +kernel)) ggX2_allFree_X3_isFree
theorem dX2_allFree_0 : decode cX2_allFree 0 = .ok (.iconst 0, 1) := by decide +kernel
theorem dX2_allFree_1 : decode cX2_allFree 1 = .ok (.istore_n 1, 1) := by decide +kernel
theorem dX2_allFree_2 : decode cX2_allFree 2 = .ok (.iload_n 1, 1) := by decide +kernel
theorem dX2_allFree_3 : decode cX2_allFree 3 = .ok (.aload_n 0, 1) := by decide +kernel
theorem dX2_allFree_4 : decode cX2_allFree 4 = .ok (.invokevirtual 98, 3) := by decide +kernel
theorem dX2_allFree_7 : decode cX2_allFree 7 = .ok (.if_icmp .ge 27, 3) := by decide +kernel
theorem dX2_allFree_10 : decode cX2_allFree 10 = .ok (.aload_n 0, 1) := by decide +kernel
theorem dX2_allFree_11 : decode cX2_allFree 11 = .ok (.getfield 32, 3) := by decide +kernel
theorem dX2_allFree_14 : decode cX2_allFree 14 = .ok (.iload_n 1, 1) := by decide +kernel
theorem dX2_allFree_15 : decode cX2_allFree 15 = .ok (.aaload, 1) := by decide +kernel
theorem dX2_allFree_16 : decode cX2_allFree 16 = .ok (.aload_n 0, 1) := by decide +kernel
theorem dX2_allFree_17 : decode cX2_allFree 17 = .ok (.getfield 53, 3) := by decide +kernel
theorem dX2_allFree_20 : decode cX2_allFree 20 = .ok (.invokevirtual 101, 3) := by decide +kernel
theorem dX2_allFree_23 : decode cX2_allFree 23 = .ok (.ifCond .ne 5, 3) := by decide +kernel
theorem dX2_allFree_26 : decode cX2_allFree 26 = .ok (.iconst 0, 1) := by decide +kernel
theorem dX2_allFree_27 : decode cX2_allFree 27 = .ok (.ireturn, 1) := by decide +kernel
theorem dX2_allFree_28 : decode cX2_allFree 28 = .ok (.iinc 1 1, 3) := by decide +kernel
theorem dX2_allFree_31 : decode cX2_allFree 31 = .ok (.goto (-29), 3) := by decide +kernel
theorem dX2_allFree_34 : decode cX2_allFree 34 = .ok (.iconst 1, 1) := by decide +kernel
theorem dX2_allFree_35 : decode cX2_allFree 35 = .ok (.ireturn, 1) := by decide +kernel
set_option maxRecDepth 20000 in
theorem ggX2_pass_X2_isOver : GoodIn wsX2_pass wsX2_isOver := goodIn_r _ [5, 6, 7, 8, 9, 10, 4, 11, 12, 13, 14, 15, 16, 17, 18, 19, 20, 21, 22, 23, 24, 25, 26, 27, 28, 29, 30, 124, 125, 126, 127, 128, 129, 130, 131, 132, 133, 134, 135, 136, 137, 138, 139, 140, 141, 142, 143] (by decide +kernel) (by decide +kernel)
set_option maxRecDepth 20000 in
theorem gX2_pass_X2_isOver : GoodIn wsX2_pass (wsV RX2 105 RX2 yX2_isOver wsX2_isOver) := goodIn_app (goodIn_of _ (by decide +kernel)) ggX2_pass_X2_isOver
set_option maxRecDepth 20000 in
theorem ggX2_pass_X2_passMinute : GoodIn wsX2_pass wsX2_passMinute := goodIn_r _ [34, 7, 35, 6, 36, 37, 38, 4, 39, 12, 13, 14, 40, 41, 42, 43, 44, 45, 46, 47, 48, 49, 50, 51, 52, 53, 54, 55, 56, 57, 58, 59, 60, 19, 20, 21, 22, 23, 24, 61, 62, 63, 28, 64, 30, 65, 66, 67, 68, 69, 70, 71, 72, 73, 74, 75, 76, 25, 26, 27, 29, 77, 78, 79, 80, 81, 82, 83, 84, 85, 86, 87, 88, 89, 90, 91, 92, 93, 94, 95, 96, 97, 98, 99, 100, 101, 102, 103, 104, 105, 106, 107, 108, 109, 110, 111, 112, 113, 114, 115, 116, 117, 118, 119, 120, 121, 122, 123, 124, 125, 126, 127, 128, 129, 130, 131, 132, 133, 134, 135, 136, 137, 138, 139, 140, 141, 142, 143] (by decide +kernel) (by decide +kernel)
set_option maxRecDepth 20000 in
theorem gX2_pass_X2_passMinute : GoodIn wsX2_pass (wsV RX2 108 RX2 yX2_passMinute wsX2_passMinute) := goodIn_app (goodIn_of _ (by decide +kernel)) ggX2_pass_X2_passMinute
theorem dX2_pass_0 : decode cX2_pass 0 = .ok (.iconst 0, 1) := by decide +kernel
theorem dX2_pass_1 : decode cX2_pass 1 = .ok (.istore_n 2, 1) := by decide +kernel
theorem dX2_pass_2 : decode cX2_pass 2 = .ok (.iload_n 2, 1) := by decide +kernel
theorem dX2_pass_3 : decode cX2_pass 3 = .ok (.iload_n 1, 1) := by decide +kernel
theorem dX2_pass_4 : decode cX2_pass 4 = .ok (.if_icmp .ge 20, 3) := by decide +kernel
theorem dX2_pass_7 : decode cX2_pass 7 = .ok (.aload_n 0, 1) := by decide +kernel
theorem dX2_pass_8 : decode cX2_pass 8 = .ok (.invokevirtual 105, 3) := by decide +kernel
theorem dX2_pass_11 : decode cX2_pass 11 = .ok (.ifCond .ne 13, 3) := by decide +kernel
theorem dX2_pass_14 : decode cX2_pass 14 = .ok (.aload_n 0, 1) := by decide +kernel
theorem dX2_pass_15 : decode cX2_pass 15 = .ok (.invokevirtual 108, 3) := by decide +kernel
theorem dX2_pass_18 : decode cX2_pass 18 = .ok (.iinc 2 1, 3) := by decide +kernel
theorem dX2_pass_21 : decode cX2_pass 21 = .ok (.goto (-19), 3) := by decide +kernel
theorem dX2_pass_24 : decode cX2_pass 24 = .ok (.return_, 1) := by decide +kernel
set_option maxRecDepth 20000 in
theorem ggX2_passMinute_X2_lineUp : GoodIn wsX2_passMinute wsX2_lineUp := goodIn_r _ [8, 9, 10, 11, 12, 3, 1, 2, 108, 109, 110, 111, 112, 113, 114, 115, 116, 117, 118, 119, 120, 121, 122] (by decide +kernel) (by decide +kernel)
set_option maxRecDepth 20000 in
theorem gX2_passMinute_X2_lineUp : GoodIn wsX2_passMinute (wsV RX2 111 RX2 yX2_lineUp wsX2_lineUp) := goodIn_app (goodIn_of _ (by decide +kernel)) ggX2_passMinute_X2_lineUp
set_option maxRecDepth 20000 in
theorem ggX2_passMinute_X2_loseImpatient : GoodIn wsX2_passMinute wsX2_loseImpatient := goodIn_r _ [16, 1, 10, 2, 3, 12, 17, 11, 18, 19, 20, 7, 21, 108, 109, 110, 111, 112, 113, 114, 115, 116, 117, 118, 119, 120, 121, 122] (by decide +kernel) (by decide +kernel)
set_option maxRecDepth 20000 in
theorem gX2_passMinute_X2_loseImpatient : GoodIn wsX2_passMinute (wsV RX2 114 RX2 yX2_loseImpatient wsX2_loseImpatient) := goodIn_app (goodIn_of _ (by decide +kernel)) ggX2_passMinute_X2_loseImpatient
set_option maxRecDepth 20000 in
theorem ggX2_passMinute_X2_serve : GoodIn wsX2_passMinute wsX2_serve := goodIn_r _ [25, 10, 26, 27, 11, 3, 28, 29, 30, 31, 7, 32, 33, 34, 35, 36, 37, 38, 39, 40, 41, 42, 43, 44, 45, 46, 108, 109, 110, 111, 112, 113, 114, 115, 116, 117, 118, 119, 120, 121, 122, 123, 124, 125, 126, 127] (by decide +kernel) (by decide +kernel)
set_option maxRecDepth 20000 in
theorem gX2_passMinute_X2_serve : GoodIn wsX2_passMinute (wsV RX2 117 RX2 yX2_serve wsX2_serve) := goodIn_app (goodIn_of _ (by decide +kernel)) ggX2_passMinute_X2_serve
set_option maxRecDepth 20000 in
theorem ggX2_passMinute_X2_boil : GoodIn wsX2_passMinute wsX2_boil := goodIn_r _ [50, 10, 51, 3, 27, 38, 52, 53, 54, 55, 7, 56, 33, 34, 35, 36, 37, 57, 58, 59, 42, 60, 44, 61, 62, 63, 64, 65, 66, 67, 68, 69, 26, 70, 71, 72, 73, 74, 75, 76, 77, 78, 79, 80, 81, 9, 11, 82, 83, 84, 85, 12, 86, 87, 88, 89, 46, 45, 90, 91, 92, 93, 94, 95, 96, 97, 98, 108, 109, 110, 111, 112, 113, 114, 115, 116, 117, 118, 119, 120, 121, 122, 123, 124, 125, 126, 127] (by decide +kernel) (by decide +kernel)
set_option maxRecDepth 20000 in
theorem gX2_passMinute_X2_boil : GoodIn wsX2_passMinute (wsV RX2 120 RX2 yX2_boil wsX2_boil) := goodIn_app (goodIn_of _ (by decide +kernel)) ggX2_passMinute_X2_boil
set_option maxRecDepth 20000 in
theorem ggX2_passMinute_X2_closeUp : GoodIn wsX2_passMinute wsX2_closeUp := goodIn_r _ [21, 1, 10, 2, 11, 108, 109, 110, 111, 112, 113, 114, 115, 116, 117, 118, 119, 120, 121, 122] (by decide +kernel) (by decide +kernel)
set_option maxRecDepth 20000 in
theorem gX2_passMinute_X2_closeUp : GoodIn wsX2_passMinute (wsV RX2 124 RX2 yX2_closeUp wsX2_closeUp) := goodIn_app (goodIn_of _ (by decide +kernel)) ggX2_passMinute_X2_closeUp
set_option maxRecDepth 20000 in
theorem ggX2_passMinute_X2_coolDown : GoodIn wsX2_passMinute wsX2_coolDown := goodIn_r _ [102, 33, 27, 3, 38, 34, 35, 36, 7, 37, 57, 58, 59, 42, 60, 44, 103, 104, 105, 106, 94, 45, 107, 72, 73, 74, 108, 109, 110, 111, 112, 113, 114, 115, 123, 124, 125, 126, 127] (by decide +kernel) (by decide +kernel)
set_option maxRecDepth 20000 in
theorem gX2_passMinute_X2_coolDown : GoodIn wsX2_passMinute (wsV RX2 127 RX2 yX2_coolDown wsX2_coolDown) := goodIn_app (goodIn_of _ (by decide +kernel)) ggX2_passMinute_X2_coolDown
end
section
theorem dX2_passMinute_0 : decode cX2_passMinute 0 = .ok (.aload_n 0, 1) := by decide +kernel
theorem dX2_passMinute_1 : decode cX2_passMinute 1 = .ok (.invokevirtual 111, 3) := by decide +kernel
theorem dX2_passMinute_4 : decode cX2_passMinute 4 = .ok (.aload_n 0, 1) := by decide +kernel
theorem dX2_passMinute_5 : decode cX2_passMinute 5 = .ok (.invokevirtual 114, 3) := by decide +kernel
theorem dX2_passMinute_8 : decode cX2_passMinute 8 = .ok (.iconst 0, 1) := by decide +kernel
theorem dX2_passMinute_9 : decode cX2_passMinute 9 = .ok (.istore_n 1, 1) := by decide +kernel
theorem dX2_passMinute_10 : decode cX2_passMinute 10 = .ok (.iload_n 1, 1) := by decide +kernel
theorem dX2_passMinute_11 : decode cX2_passMinute 11 = .ok (.aload_n 0, 1) := by decide +kernel
theorem dX2_passMinute_12 : decode cX2_passMinute 12 = .ok (.getfield 50, 3) := by decide +kernel
theorem dX2_passMinute_15 : decode cX2_passMinute 15 = .ok (.if_icmp .ge 32, 3) := by decide +kernel
theorem dX2_passMinute_18 : decode cX2_passMinute 18 = .ok (.aload_n 0, 1) := by decide +kernel
theorem dX2_passMinute_19 : decode cX2_passMinute 19 = .ok (.aload_n 0, 1) := by decide +kernel
theorem dX2_passMinute_20 : decode cX2_passMinute 20 = .ok (.getfield 37, 3) := by decide +kernel
theorem dX2_passMinute_23 : decode cX2_passMinute 23 = .ok (.iload_n 1, 1) := by decide +kernel
theorem dX2_passMinute_24 : decode cX2_passMinute 24 = .ok (.iaload, 1) := by decide +kernel
theorem dX2_passMinute_25 : decode cX2_passMinute 25 = .ok (.invokevirtual 117, 3) := by decide +kernel
theorem dX2_passMinute_28 : decode cX2_passMinute 28 = .ok (.ifCond .ne 13, 3) := by decide +kernel
theorem dX2_passMinute_31 : decode cX2_passMinute 31 = .ok (.aload_n 0, 1) := by decide +kernel
theorem dX2_passMinute_32 : decode cX2_passMinute 32 = .ok (.aload_n 0, 1) := by decide +kernel
theorem dX2_passMinute_33 : decode cX2_passMinute 33 = .ok (.getfield 37, 3) := by decide +kernel
theorem dX2_passMinute_36 : decode cX2_passMinute 36 = .ok (.iload_n 1, 1) := by decide +kernel
theorem dX2_passMinute_37 : decode cX2_passMinute 37 = .ok (.iaload, 1) := by decide +kernel
theorem dX2_passMinute_38 : decode cX2_passMinute 38 = .ok (.invokevirtual 120, 3) := by decide +kernel
theorem dX2_passMinute_41 : decode cX2_passMinute 41 = .ok (.iinc 1 1, 3) := by decide +kernel
theorem dX2_passMinute_44 : decode cX2_passMinute 44 = .ok (.goto (-34), 3) := by decide +kernel
theorem dX2_passMinute_47 : decode cX2_passMinute 47 = .ok (.aload_n 0, 1) := by decide +kernel
theorem dX2_passMinute_48 : decode cX2_passMinute 48 = .ok (.invokevirtual 124, 3) := by decide +kernel
theorem dX2_passMinute_51 : decode cX2_passMinute 51 = .ok (.aload_n 0, 1) := by decide +kernel
theorem dX2_passMinute_52 : decode cX2_passMinute 52 = .ok (.invokevirtual 127, 3) := by decide +kernel
theorem dX2_passMinute_55 : decode cX2_passMinute 55 = .ok (.aload_n 0, 1) := by decide +kernel
theorem dX2_passMinute_56 : decode cX2_passMinute 56 = .ok (.dup, 1) := by decide +kernel
theorem dX2_passMinute_57 : decode cX2_passMinute 57 = .ok (.getfield 53, 3) := by decide +kernel
theorem dX2_passMinute_60 : decode cX2_passMinute 60 = .ok (.iconst 1, 1) := by decide +kernel
theorem dX2_passMinute_61 : decode cX2_passMinute 61 = .ok (.iadd, 1) := by decide +kernel
theorem dX2_passMinute_62 : decode cX2_passMinute 62 = .ok (.putfield 53, 3) := by decide +kernel
theorem dX2_passMinute_65 : decode cX2_passMinute 65 = .ok (.return_, 1) := by decide +kernel
theorem dX2_lineUp_0 : decode cX2_lineUp 0 = .ok (.iconst 0, 1) := by decide +kernel
theorem dX2_lineUp_1 : decode cX2_lineUp 1 = .ok (.istore_n 1, 1) := by decide +kernel
theorem dX2_lineUp_2 : decode cX2_lineUp 2 = .ok (.iload_n 1, 1) := by decide +kernel
theorem dX2_lineUp_3 : decode cX2_lineUp 3 = .ok (.aload_n 0, 1) := by decide +kernel
theorem dX2_lineUp_4 : decode cX2_lineUp 4 = .ok (.getfield 46, 3) := by decide +kernel
theorem dX2_lineUp_7 : decode cX2_lineUp 7 = .ok (.if_icmp .ge 79, 3) := by decide +kernel
theorem dX2_lineUp_10 : decode cX2_lineUp 10 = .ok (.aload_n 0, 1) := by decide +kernel
theorem dX2_lineUp_11 : decode cX2_lineUp 11 = .ok (.getfield 25, 3) := by decide +kernel
theorem dX2_lineUp_14 : decode cX2_lineUp 14 = .ok (.iload_n 1, 1) := by decide +kernel
theorem dX2_lineUp_15 : decode cX2_lineUp 15 = .ok (.aaload, 1) := by decide +kernel
theorem dX2_lineUp_16 : decode cX2_lineUp 16 = .ok (.getfield 63, 3) := by decide +kernel
theorem dX2_lineUp_19 : decode cX2_lineUp 19 = .ok (.ifCond .ne 61, 3) := by decide +kernel
theorem dX2_lineUp_22 : decode cX2_lineUp 22 = .ok (.aload_n 0, 1) := by decide +kernel
theorem dX2_lineUp_23 : decode cX2_lineUp 23 = .ok (.getfield 25, 3) := by decide +kernel
theorem dX2_lineUp_26 : decode cX2_lineUp 26 = .ok (.iload_n 1, 1) := by decide +kernel
theorem dX2_lineUp_27 : decode cX2_lineUp 27 = .ok (.aaload, 1) := by decide +kernel
theorem dX2_lineUp_28 : decode cX2_lineUp 28 = .ok (.getfield 83, 3) := by decide +kernel
theorem dX2_lineUp_31 : decode cX2_lineUp 31 = .ok (.aload_n 0, 1) := by decide +kernel
theorem dX2_lineUp_32 : decode cX2_lineUp 32 = .ok (.getfield 53, 3) := by decide +kernel
theorem dX2_lineUp_35 : decode cX2_lineUp 35 = .ok (.if_icmp .ne 45, 3) := by decide +kernel
theorem dX2_lineUp_38 : decode cX2_lineUp 38 = .ok (.aload_n 0, 1) := by decide +kernel
theorem dX2_lineUp_39 : decode cX2_lineUp 39 = .ok (.getfield 50, 3) := by decide +kernel
theorem dX2_lineUp_42 : decode cX2_lineUp 42 = .ok (.aload_n 0, 1) := by decide +kernel
theorem dX2_lineUp_43 : decode cX2_lineUp 43 = .ok (.getfield 37, 3) := by decide +kernel
theorem dX2_lineUp_46 : decode cX2_lineUp 46 = .ok (.arraylength, 1) := by decide +kernel
theorem dX2_lineUp_47 : decode cX2_lineUp 47 = .ok (.if_icmp .ge 33, 3) := by decide +kernel
theorem dX2_lineUp_50 : decode cX2_lineUp 50 = .ok (.aload_n 0, 1) := by decide +kernel
theorem dX2_lineUp_51 : decode cX2_lineUp 51 = .ok (.getfield 25, 3) := by decide +kernel
theorem dX2_lineUp_54 : decode cX2_lineUp 54 = .ok (.iload_n 1, 1) := by decide +kernel
theorem dX2_lineUp_55 : decode cX2_lineUp 55 = .ok (.aaload, 1) := by decide +kernel
theorem dX2_lineUp_56 : decode cX2_lineUp 56 = .ok (.iconst 1, 1) := by decide +kernel
theorem dX2_lineUp_57 : decode cX2_lineUp 57 = .ok (.putfield 63, 3) := by decide +kernel
theorem dX2_lineUp_60 : decode cX2_lineUp 60 = .ok (.aload_n 0, 1) := by decide +kernel
theorem dX2_lineUp_61 : decode cX2_lineUp 61 = .ok (.getfield 37, 3) := by decide +kernel
theorem dX2_lineUp_64 : decode cX2_lineUp 64 = .ok (.aload_n 0, 1) := by decide +kernel
theorem dX2_lineUp_65 : decode cX2_lineUp 65 = .ok (.getfield 50, 3) := by decide +kernel
theorem dX2_lineUp_68 : decode cX2_lineUp 68 = .ok (.iload_n 1, 1) := by decide +kernel
theorem dX2_lineUp_69 : decode cX2_lineUp 69 = .ok (.iastore, 1) := by decide +kernel
theorem dX2_lineUp_70 : decode cX2_lineUp 70 = .ok (.aload_n 0, 1) := by decide +kernel
theorem dX2_lineUp_71 : decode cX2_lineUp 71 = .ok (.dup, 1) := by decide +kernel
theorem dX2_lineUp_72 : decode cX2_lineUp 72 = .ok (.getfield 50, 3) := by decide +kernel
theorem dX2_lineUp_75 : decode cX2_lineUp 75 = .ok (.iconst 1, 1) := by decide +kernel
theorem dX2_lineUp_76 : decode cX2_lineUp 76 = .ok (.iadd, 1) := by decide +kernel
theorem dX2_lineUp_77 : decode cX2_lineUp 77 = .ok (.putfield 50, 3) := by decide +kernel
theorem dX2_lineUp_80 : decode cX2_lineUp 80 = .ok (.iinc 1 1, 3) := by decide +kernel
theorem dX2_lineUp_83 : decode cX2_lineUp 83 = .ok (.goto (-81), 3) := by decide +kernel
theorem dX2_lineUp_86 : decode cX2_lineUp 86 = .ok (.return_, 1) := by decide +kernel
set_option maxRecDepth 20000 in
theorem ggX2_loseImpatient_X2_closeUp : GoodIn wsX2_loseImpatient wsX2_closeUp := goodIn_r _ [12, 1, 2, 3, 7, 13, 14, 15, 16, 17, 18, 19, 20, 21, 22, 23, 24, 25, 26, 27] (by decide +kernel) (by decide +kernel)
set_option maxRecDepth 20000 in
theorem gX2_loseImpatient_X2_closeUp : GoodIn wsX2_loseImpatient (wsV RX2 124 RX2 yX2_closeUp wsX2_closeUp) := goodIn_app (goodIn_of _ (by decide +kernel)) ggX2_loseImpatient_X2_closeUp
theorem dX2_loseImpatient_0 : decode cX2_loseImpatient 0 = .ok (.iconst 0, 1) := by decide +kernel
theorem dX2_loseImpatient_1 : decode cX2_loseImpatient 1 = .ok (.istore_n 1, 1) := by decide +kernel
theorem dX2_loseImpatient_2 : decode cX2_loseImpatient 2 = .ok (.iload_n 1, 1) := by decide +kernel
theorem dX2_loseImpatient_3 : decode cX2_loseImpatient 3 = .ok (.aload_n 0, 1) := by decide +kernel
theorem dX2_loseImpatient_4 : decode cX2_loseImpatient 4 = .ok (.getfield 50, 3) := by decide +kernel
theorem dX2_loseImpatient_7 : decode cX2_loseImpatient 7 = .ok (.if_icmp .ge 42, 3) := by decide +kernel
theorem dX2_loseImpatient_10 : decode cX2_loseImpatient 10 = .ok (.aload_n 0, 1) := by decide +kernel
theorem dX2_loseImpatient_11 : decode cX2_loseImpatient 11 = .ok (.getfield 25, 3) := by decide +kernel
theorem dX2_loseImpatient_14 : decode cX2_loseImpatient 14 = .ok (.aload_n 0, 1) := by decide +kernel
theorem dX2_loseImpatient_15 : decode cX2_loseImpatient 15 = .ok (.getfield 37, 3) := by decide +kernel
theorem dX2_loseImpatient_18 : decode cX2_loseImpatient 18 = .ok (.iload_n 1, 1) := by decide +kernel
theorem dX2_loseImpatient_19 : decode cX2_loseImpatient 19 = .ok (.iaload, 1) := by decide +kernel
theorem dX2_loseImpatient_20 : decode cX2_loseImpatient 20 = .ok (.aaload, 1) := by decide +kernel
theorem dX2_loseImpatient_21 : decode cX2_loseImpatient 21 = .ok (.astore_n 2, 1) := by decide +kernel
theorem dX2_loseImpatient_22 : decode cX2_loseImpatient 22 = .ok (.aload_n 0, 1) := by decide +kernel
theorem dX2_loseImpatient_23 : decode cX2_loseImpatient 23 = .ok (.getfield 53, 3) := by decide +kernel
theorem dX2_loseImpatient_26 : decode cX2_loseImpatient 26 = .ok (.aload_n 2, 1) := by decide +kernel
theorem dX2_loseImpatient_27 : decode cX2_loseImpatient 27 = .ok (.getfield 83, 3) := by decide +kernel
theorem dX2_loseImpatient_30 : decode cX2_loseImpatient 30 = .ok (.isub, 1) := by decide +kernel
theorem dX2_loseImpatient_31 : decode cX2_loseImpatient 31 = .ok (.aload_n 2, 1) := by decide +kernel
theorem dX2_loseImpatient_32 : decode cX2_loseImpatient 32 = .ok (.getfield 87, 3) := by decide +kernel
theorem dX2_loseImpatient_35 : decode cX2_loseImpatient 35 = .ok (.if_icmp .le 8, 3) := by decide +kernel
theorem dX2_loseImpatient_38 : decode cX2_loseImpatient 38 = .ok (.aload_n 2, 1) := by decide +kernel
theorem dX2_loseImpatient_39 : decode cX2_loseImpatient 39 = .ok (.iconst 3, 1) := by decide +kernel
theorem dX2_loseImpatient_40 : decode cX2_loseImpatient 40 = .ok (.putfield 63, 3) := by decide +kernel
theorem dX2_loseImpatient_43 : decode cX2_loseImpatient 43 = .ok (.iinc 1 1, 3) := by decide +kernel
theorem dX2_loseImpatient_46 : decode cX2_loseImpatient 46 = .ok (.goto (-44), 3) := by decide +kernel
theorem dX2_loseImpatient_49 : decode cX2_loseImpatient 49 = .ok (.aload_n 0, 1) := by decide +kernel
theorem dX2_loseImpatient_50 : decode cX2_loseImpatient 50 = .ok (.invokevirtual 124, 3) := by decide +kernel
theorem dX2_loseImpatient_53 : decode cX2_loseImpatient 53 = .ok (.return_, 1) := by decide +kernel
set_option maxRecDepth 20000 in
theorem ggX2_serve_X2_firstReady : GoodIn wsX2_serve wsX2_firstReady := goodIn_r _ [11, 12, 5, 13, 14, 15, 10, 16, 17, 18, 19, 20, 21, 22, 23, 24, 25, 26, 27, 28, 29, 30, 31, 32, 33, 41, 42, 43, 44, 45] (by decide +kernel) (by decide +kernel)
set_option maxRecDepth 20000 in
theorem gX2_serve_X2_firstReady : GoodIn wsX2_serve (wsV RX2 130 RX2 yX2_firstReady wsX2_firstReady) := goodIn_app (goodIn_of _ (by decide +kernel)) ggX2_serve_X2_firstReady
theorem dX2_serve_0 : decode cX2_serve 0 = .ok (.aload_n 0, 1) := by decide +kernel
theorem dX2_serve_1 : decode cX2_serve 1 = .ok (.getfield 25, 3) := by decide +kernel
theorem dX2_serve_4 : decode cX2_serve 4 = .ok (.iload_n 1, 1) := by decide +kernel
theorem dX2_serve_5 : decode cX2_serve 5 = .ok (.aaload, 1) := by decide +kernel
theorem dX2_serve_6 : decode cX2_serve 6 = .ok (.astore_n 2, 1) := by decide +kernel
theorem dX2_serve_7 : decode cX2_serve 7 = .ok (.aload_n 0, 1) := by decide +kernel
theorem dX2_serve_8 : decode cX2_serve 8 = .ok (.aload_n 2, 1) := by decide +kernel
theorem dX2_serve_9 : decode cX2_serve 9 = .ok (.getfield 84, 3) := by decide +kernel
theorem dX2_serve_12 : decode cX2_serve 12 = .ok (.invokevirtual 130, 3) := by decide +kernel
theorem dX2_serve_15 : decode cX2_serve 15 = .ok (.astore_n 3, 1) := by decide +kernel
theorem dX2_serve_16 : decode cX2_serve 16 = .ok (.aload_n 3, 1) := by decide +kernel
theorem dX2_serve_17 : decode cX2_serve 17 = .ok (.ifnull 29, 3) := by decide +kernel
theorem dX2_serve_20 : decode cX2_serve 20 = .ok (.aload_n 3, 1) := by decide +kernel
theorem dX2_serve_21 : decode cX2_serve 21 = .ok (.dup, 1) := by decide +kernel
theorem dX2_serve_22 : decode cX2_serve 22 = .ok (.getfield 134, 3) := by decide +kernel
theorem dX2_serve_25 : decode cX2_serve 25 = .ok (.aload_n 2, 1) := by decide +kernel
theorem dX2_serve_26 : decode cX2_serve 26 = .ok (.getfield 84, 3) := by decide +kernel
theorem dX2_serve_29 : decode cX2_serve 29 = .ok (.isub, 1) := by decide +kernel
theorem dX2_serve_30 : decode cX2_serve 30 = .ok (.putfield 134, 3) := by decide +kernel
theorem dX2_serve_33 : decode cX2_serve 33 = .ok (.aload_n 2, 1) := by decide +kernel
theorem dX2_serve_34 : decode cX2_serve 34 = .ok (.iconst 2, 1) := by decide +kernel
theorem dX2_serve_35 : decode cX2_serve 35 = .ok (.putfield 63, 3) := by decide +kernel
theorem dX2_serve_38 : decode cX2_serve 38 = .ok (.aload_n 2, 1) := by decide +kernel
theorem dX2_serve_39 : decode cX2_serve 39 = .ok (.aload_n 0, 1) := by decide +kernel
theorem dX2_serve_40 : decode cX2_serve 40 = .ok (.getfield 53, 3) := by decide +kernel
theorem dX2_serve_43 : decode cX2_serve 43 = .ok (.putfield 137, 3) := by decide +kernel
theorem dX2_serve_46 : decode cX2_serve 46 = .ok (.aload_n 3, 1) := by decide +kernel
theorem dX2_serve_47 : decode cX2_serve 47 = .ok (.ifnull 7, 3) := by decide +kernel
theorem dX2_serve_50 : decode cX2_serve 50 = .ok (.iconst 1, 1) := by decide +kernel
theorem dX2_serve_51 : decode cX2_serve 51 = .ok (.goto 4, 3) := by decide +kernel
theorem dX2_serve_54 : decode cX2_serve 54 = .ok (.iconst 0, 1) := by decide +kernel
theorem dX2_serve_55 : decode cX2_serve 55 = .ok (.ireturn, 1) := by decide +kernel
set_option maxRecDepth 20000 in
theorem ggX2_boil_X2_firstFree : GoodIn wsX2_boil wsX2_firstFree := goodIn_r _ [11, 12, 3, 13, 14, 15, 10, 16, 5, 17, 18, 19, 20, 21, 22, 67, 68, 69, 70, 71, 72, 73, 74, 82, 83, 84, 85, 86] (by decide +kernel) (by decide +kernel)
set_option maxRecDepth 20000 in
theorem gX2_boil_X2_firstFree : GoodIn wsX2_boil (wsV RX2 140 RX2 yX2_firstFree wsX2_firstFree) := goodIn_app (goodIn_of _ (by decide +kernel)) ggX2_boil_X2_firstFree
set_option maxRecDepth 20000 in
theorem ggX2_boil_X2_waitsForOwn : GoodIn wsX2_boil wsX2_waitsForOwn := goodIn_r _ [26, 12, 27, 3, 13, 14, 15, 10, 16, 5, 17, 18, 19, 20, 21, 22, 67, 68, 69, 70, 71, 72, 73, 74, 82, 83, 84, 85, 86] (by decide +kernel) (by decide +kernel)
set_option maxRecDepth 20000 in
theorem gX2_boil_X2_waitsForOwn : GoodIn wsX2_boil (wsV RX2 144 RX2 yX2_waitsForOwn wsX2_waitsForOwn) := goodIn_app (goodIn_of _ (by decide +kernel)) ggX2_boil_X2_waitsForOwn
set_option maxRecDepth 20000 in
theorem ggX2_boil_X2_upTo : GoodIn wsX2_boil wsX2_upTo := goodIn_r _ [31, 32, 5, 3, 33, 34, 35, 36, 37, 38, 39, 40, 41, 42, 43, 10, 44, 45, 1, 46, 47, 48, 49, 50, 51, 75, 76, 77, 78, 79, 80, 81, 67, 68, 69, 70, 71, 72, 73, 74] (by decide +kernel) (by decide +kernel)
set_option maxRecDepth 20000 in
theorem gX2_boil_X2_upTo : GoodIn wsX2_boil (wsV RX2 150 RX2 yX2_upTo wsX2_upTo) := goodIn_app (goodIn_of _ (by decide +kernel)) ggX2_boil_X2_upTo
set_option maxRecDepth 20000 in
theorem ggX2_boil_X3_fill : GoodIn wsX2_boil wsX3_fill := goodIn_r _ [55, 56, 57, 82, 83, 84, 85, 86] (by decide +kernel) (by decide +kernel)
set_option maxRecDepth 20000 in
theorem gX2_boil_X3_fill : GoodIn wsX2_boil (wsV RX2 154 RX3 yX3_fill wsX3_fill) := goodIn_app (goodIn_of _ (by decide +kernel)) ggX2_boil_X3_fill
set_option maxRecDepth 20000 in
theorem ggX2_boil_X3_putOn : GoodIn wsX2_boil wsX3_putOn := goodIn_r _ [61, 56, 57, 22, 62, 63, 64, 65, 66, 82, 83, 84, 85, 86] (by decide +kernel) (by decide +kernel)
set_option maxRecDepth 20000 in
theorem gX2_boil_X3_putOn : GoodIn wsX2_boil (wsV RX2 157 RX3 yX3_putOn wsX3_putOn) := goodIn_app (goodIn_of _ (by decide +kernel)) ggX2_boil_X3_putOn
theorem dX2_boil_0 : decode cX2_boil 0 = .ok (.aload_n 0, 1) := by decide +kernel
theorem dX2_boil_1 : decode cX2_boil 1 = .ok (.invokevirtual 140, 3) := by decide +kernel
theorem dX2_boil_4 : decode cX2_boil 4 = .ok (.astore_n 2, 1) := by decide +kernel
theorem dX2_boil_5 : decode cX2_boil 5 = .ok (.aload_n 2, 1) := by decide +kernel
theorem dX2_boil_6 : decode cX2_boil 6 = .ok (.ifnull 11, 3) := by decide +kernel
theorem dX2_boil_9 : decode cX2_boil 9 = .ok (.aload_n 0, 1) := by decide +kernel
theorem dX2_boil_10 : decode cX2_boil 10 = .ok (.iload_n 1, 1) := by decide +kernel
theorem dX2_boil_11 : decode cX2_boil 11 = .ok (.invokevirtual 144, 3) := by decide +kernel
theorem dX2_boil_14 : decode cX2_boil 14 = .ok (.ifCond .eq 4, 3) := by decide +kernel
theorem dX2_boil_17 : decode cX2_boil 17 = .ok (.return_, 1) := by decide +kernel
theorem dX2_boil_18 : decode cX2_boil 18 = .ok (.aload_n 0, 1) := by decide +kernel
theorem dX2_boil_19 : decode cX2_boil 19 = .ok (.aload_n 0, 1) := by decide +kernel
theorem dX2_boil_20 : decode cX2_boil 20 = .ok (.getfield 25, 3) := by decide +kernel
theorem dX2_boil_23 : decode cX2_boil 23 = .ok (.iload_n 1, 1) := by decide +kernel
theorem dX2_boil_24 : decode cX2_boil 24 = .ok (.aaload, 1) := by decide +kernel
theorem dX2_boil_25 : decode cX2_boil 25 = .ok (.aload_n 0, 1) := by decide +kernel
theorem dX2_boil_26 : decode cX2_boil 26 = .ok (.getfield 25, 3) := by decide +kernel
theorem dX2_boil_29 : decode cX2_boil 29 = .ok (.iload_n 1, 1) := by decide +kernel
theorem dX2_boil_30 : decode cX2_boil 30 = .ok (.aaload, 1) := by decide +kernel
theorem dX2_boil_31 : decode cX2_boil 31 = .ok (.getfield 147, 3) := by decide +kernel
theorem dX2_boil_34 : decode cX2_boil 34 = .ok (.invokevirtual 150, 3) := by decide +kernel
theorem dX2_boil_37 : decode cX2_boil 37 = .ok (.istore_n 3, 1) := by decide +kernel
theorem dX2_boil_38 : decode cX2_boil 38 = .ok (.aload_n 0, 1) := by decide +kernel
theorem dX2_boil_39 : decode cX2_boil 39 = .ok (.getfield 53, 3) := by decide +kernel
theorem dX2_boil_42 : decode cX2_boil 42 = .ok (.istore 4, 2) := by decide +kernel
theorem dX2_boil_44 : decode cX2_boil 44 = .ok (.aload_n 2, 1) := by decide +kernel
theorem dX2_boil_45 : decode cX2_boil 45 = .ok (.getfield 134, 3) := by decide +kernel
theorem dX2_boil_48 : decode cX2_boil 48 = .ok (.iload_n 3, 1) := by decide +kernel
theorem dX2_boil_49 : decode cX2_boil 49 = .ok (.if_icmp .ge 19, 3) := by decide +kernel
theorem dX2_boil_52 : decode cX2_boil 52 = .ok (.aload_n 2, 1) := by decide +kernel
theorem dX2_boil_53 : decode cX2_boil 53 = .ok (.iload_n 3, 1) := by decide +kernel
theorem dX2_boil_54 : decode cX2_boil 54 = .ok (.invokevirtual 154, 3) := by decide +kernel
theorem dX2_boil_57 : decode cX2_boil 57 = .ok (.iload 4, 2) := by decide +kernel
theorem dX2_boil_59 : decode cX2_boil 59 = .ok (.aload_n 0, 1) := by decide +kernel
theorem dX2_boil_60 : decode cX2_boil 60 = .ok (.getfield 18, 3) := by decide +kernel
theorem dX2_boil_63 : decode cX2_boil 63 = .ok (.iconst 1, 1) := by decide +kernel
theorem dX2_boil_64 : decode cX2_boil 64 = .ok (.iaload, 1) := by decide +kernel
theorem dX2_boil_65 : decode cX2_boil 65 = .ok (.iadd, 1) := by decide +kernel
theorem dX2_boil_66 : decode cX2_boil 66 = .ok (.istore 4, 2) := by decide +kernel
theorem dX2_boil_68 : decode cX2_boil 68 = .ok (.aload_n 2, 1) := by decide +kernel
theorem dX2_boil_69 : decode cX2_boil 69 = .ok (.iload_n 1, 1) := by decide +kernel
theorem dX2_boil_70 : decode cX2_boil 70 = .ok (.iload 4, 2) := by decide +kernel
theorem dX2_boil_72 : decode cX2_boil 72 = .ok (.aload_n 0, 1) := by decide +kernel
theorem dX2_boil_73 : decode cX2_boil 73 = .ok (.getfield 18, 3) := by decide +kernel
theorem dX2_boil_76 : decode cX2_boil 76 = .ok (.iconst 2, 1) := by decide +kernel
theorem dX2_boil_77 : decode cX2_boil 77 = .ok (.iaload, 1) := by decide +kernel
theorem dX2_boil_78 : decode cX2_boil 78 = .ok (.invokevirtual 157, 3) := by decide +kernel
theorem dX2_boil_81 : decode cX2_boil 81 = .ok (.aload_n 0, 1) := by decide +kernel
theorem dX2_boil_82 : decode cX2_boil 82 = .ok (.dup, 1) := by decide +kernel
theorem dX2_boil_83 : decode cX2_boil 83 = .ok (.getfield 161, 3) := by decide +kernel
theorem dX2_boil_86 : decode cX2_boil 86 = .ok (.iconst 1, 1) := by decide +kernel
theorem dX2_boil_87 : decode cX2_boil 87 = .ok (.iadd, 1) := by decide +kernel
theorem dX2_boil_88 : decode cX2_boil 88 = .ok (.putfield 161, 3) := by decide +kernel
theorem dX2_boil_91 : decode cX2_boil 91 = .ok (.return_, 1) := by decide +kernel
set_option maxRecDepth 20000 in
theorem ggX2_firstReady_X2_kettlesInUse : GoodIn wsX2_firstReady wsX2_kettlesInUse := goodIn_r _ [7, 8, 17, 18, 19, 20, 21, 22, 23, 24] (by decide +kernel) (by decide +kernel)
set_option maxRecDepth 20000 in
theorem gX2_firstReady_X2_kettlesInUse : GoodIn wsX2_firstReady (wsV RX2 98 RX2 yX2_kettlesInUse wsX2_kettlesInUse) := goodIn_app (goodIn_of _ (by decide +kernel)) ggX2_firstReady_X2_kettlesInUse
set_option maxRecDepth 20000 in
theorem ggX2_firstReady_X3_isReady : GoodIn wsX2_firstReady wsX3_isReady := goodIn_r _ [13, 14, 15, 16, 25, 26, 27, 28, 29] (by decide +kernel) (by decide +kernel)
set_option maxRecDepth 20000 in
theorem gX2_firstReady_X3_isReady : GoodIn wsX2_firstReady (wsV RX2 164 RX3 yX3_isReady wsX3_isReady) := goodIn_app (goodIn_of _ (by decide +kernel)) ggX2_firstReady_X3_isReady
theorem dX2_firstReady_0 : decode cX2_firstReady 0 = .ok (.iconst 0, 1) := by decide +kernel
theorem dX2_firstReady_1 : decode cX2_firstReady 1 = .ok (.istore_n 2, 1) := by decide +kernel
theorem dX2_firstReady_2 : decode cX2_firstReady 2 = .ok (.iload_n 2, 1) := by decide +kernel
theorem dX2_firstReady_3 : decode cX2_firstReady 3 = .ok (.aload_n 0, 1) := by decide +kernel
theorem dX2_firstReady_4 : decode cX2_firstReady 4 = .ok (.invokevirtual 98, 3) := by decide +kernel
theorem dX2_firstReady_7 : decode cX2_firstReady 7 = .ok (.if_icmp .ge 33, 3) := by decide +kernel
theorem dX2_firstReady_10 : decode cX2_firstReady 10 = .ok (.aload_n 0, 1) := by decide +kernel
theorem dX2_firstReady_11 : decode cX2_firstReady 11 = .ok (.getfield 32, 3) := by decide +kernel
theorem dX2_firstReady_14 : decode cX2_firstReady 14 = .ok (.iload_n 2, 1) := by decide +kernel
theorem dX2_firstReady_15 : decode cX2_firstReady 15 = .ok (.aaload, 1) := by decide +kernel
theorem dX2_firstReady_16 : decode cX2_firstReady 16 = .ok (.aload_n 0, 1) := by decide +kernel
theorem dX2_firstReady_17 : decode cX2_firstReady 17 = .ok (.getfield 53, 3) := by decide +kernel
theorem dX2_firstReady_20 : decode cX2_firstReady 20 = .ok (.iload_n 1, 1) := by decide +kernel
theorem dX2_firstReady_21 : decode cX2_firstReady 21 = .ok (.invokevirtual 164, 3) := by decide +kernel
theorem dX2_firstReady_24 : decode cX2_firstReady 24 = .ok (.ifCond .eq 10, 3) := by decide +kernel
theorem dX2_firstReady_27 : decode cX2_firstReady 27 = .ok (.aload_n 0, 1) := by decide +kernel
theorem dX2_firstReady_28 : decode cX2_firstReady 28 = .ok (.getfield 32, 3) := by decide +kernel
theorem dX2_firstReady_31 : decode cX2_firstReady 31 = .ok (.iload_n 2, 1) := by decide +kernel
theorem dX2_firstReady_32 : decode cX2_firstReady 32 = .ok (.aaload, 1) := by decide +kernel
theorem dX2_firstReady_33 : decode cX2_firstReady 33 = .ok (.areturn, 1) := by decide +kernel
theorem dX2_firstReady_34 : decode cX2_firstReady 34 = .ok (.iinc 2 1, 3) := by decide +kernel
theorem dX2_firstReady_37 : decode cX2_firstReady 37 = .ok (.goto (-35), 3) := by decide +kernel
theorem dX2_firstReady_40 : decode cX2_firstReady 40 = .ok (.aconst_null, 1) := by decide +kernel
theorem dX2_firstReady_41 : decode cX2_firstReady 41 = .ok (.areturn, 1) := by decide +kernel
set_option maxRecDepth 20000 in
theorem ggX2_firstFree_X2_kettlesInUse : GoodIn wsX2_firstFree wsX2_kettlesInUse := goodIn_r _ [7, 8, 15, 16, 17, 18, 19, 20, 21, 22] (by decide +kernel) (by decide +kernel)
set_option maxRecDepth 20000 in
theorem gX2_firstFree_X2_kettlesInUse : GoodIn wsX2_firstFree (wsV RX2 98 RX2 yX2_kettlesInUse wsX2_kettlesInUse) := goodIn_app (goodIn_of _ (by decide +kernel)) ggX2_firstFree_X2_kettlesInUse
set_option maxRecDepth 20000 in
theorem ggX2_firstFree_X3_isFree : GoodIn wsX2_firstFree wsX3_isFree := goodIn_r _ [13, 14, 23, 24, 25, 26, 27] (by decide +kernel) (by decide +kernel)
set_option maxRecDepth 20000 in
theorem gX2_firstFree_X3_isFree : GoodIn wsX2_firstFree (wsV RX2 101 RX3 yX3_isFree wsX3_isFree) := goodIn_app (goodIn_of _ (by decide +kernel)) ggX2_firstFree_X3_isFree
theorem dX2_firstFree_0 : decode cX2_firstFree 0 = .ok (.iconst 0, 1) := by decide +kernel
theorem dX2_firstFree_1 : decode cX2_firstFree 1 = .ok (.istore_n 1, 1) := by decide +kernel
theorem dX2_firstFree_2 : decode cX2_firstFree 2 = .ok (.iload_n 1, 1) := by decide +kernel
theorem dX2_firstFree_3 : decode cX2_firstFree 3 = .ok (.aload_n 0, 1) := by decide +kernel
theorem dX2_firstFree_4 : decode cX2_firstFree 4 = .ok (.invokevirtual 98, 3) := by decide +kernel
theorem dX2_firstFree_7 : decode cX2_firstFree 7 = .ok (.if_icmp .ge 32, 3) := by decide +kernel
theorem dX2_firstFree_10 : decode cX2_firstFree 10 = .ok (.aload_n 0, 1) := by decide +kernel
theorem dX2_firstFree_11 : decode cX2_firstFree 11 = .ok (.getfield 32, 3) := by decide +kernel
theorem dX2_firstFree_14 : decode cX2_firstFree 14 = .ok (.iload_n 1, 1) := by decide +kernel
theorem dX2_firstFree_15 : decode cX2_firstFree 15 = .ok (.aaload, 1) := by decide +kernel
theorem dX2_firstFree_16 : decode cX2_firstFree 16 = .ok (.aload_n 0, 1) := by decide +kernel
theorem dX2_firstFree_17 : decode cX2_firstFree 17 = .ok (.getfield 53, 3) := by decide +kernel
theorem dX2_firstFree_20 : decode cX2_firstFree 20 = .ok (.invokevirtual 101, 3) := by decide +kernel
theorem dX2_firstFree_23 : decode cX2_firstFree 23 = .ok (.ifCond .eq 10, 3) := by decide +kernel
theorem dX2_firstFree_26 : decode cX2_firstFree 26 = .ok (.aload_n 0, 1) := by decide +kernel
theorem dX2_firstFree_27 : decode cX2_firstFree 27 = .ok (.getfield 32, 3) := by decide +kernel
theorem dX2_firstFree_30 : decode cX2_firstFree 30 = .ok (.iload_n 1, 1) := by decide +kernel
theorem dX2_firstFree_31 : decode cX2_firstFree 31 = .ok (.aaload, 1) := by decide +kernel
theorem dX2_firstFree_32 : decode cX2_firstFree 32 = .ok (.areturn, 1) := by decide +kernel
theorem dX2_firstFree_33 : decode cX2_firstFree 33 = .ok (.iinc 1 1, 3) := by decide +kernel
theorem dX2_firstFree_36 : decode cX2_firstFree 36 = .ok (.goto (-34), 3) := by decide +kernel
theorem dX2_firstFree_39 : decode cX2_firstFree 39 = .ok (.aconst_null, 1) := by decide +kernel
theorem dX2_firstFree_40 : decode cX2_firstFree 40 = .ok (.areturn, 1) := by decide +kernel
set_option maxRecDepth 20000 in
theorem ggX2_waitsForOwn_X2_kettlesInUse : GoodIn wsX2_waitsForOwn wsX2_kettlesInUse := goodIn_r _ [8, 9, 16, 17, 18, 19, 20, 21, 22, 23] (by decide +kernel) (by decide +kernel)
set_option maxRecDepth 20000 in
theorem gX2_waitsForOwn_X2_kettlesInUse : GoodIn wsX2_waitsForOwn (wsV RX2 98 RX2 yX2_kettlesInUse wsX2_kettlesInUse) := goodIn_app (goodIn_of _ (by decide +kernel)) ggX2_waitsForOwn_X2_kettlesInUse
set_option maxRecDepth 20000 in
theorem ggX2_waitsForOwn_X3_isFree : GoodIn wsX2_waitsForOwn wsX3_isFree := goodIn_r _ [14, 15, 24, 25, 26, 27, 28] (by decide +kernel) (by decide +kernel)
set_option maxRecDepth 20000 in
theorem gX2_waitsForOwn_X3_isFree : GoodIn wsX2_waitsForOwn (wsV RX2 101 RX3 yX3_isFree wsX3_isFree) := goodIn_app (goodIn_of _ (by decide +kernel)) ggX2_waitsForOwn_X3_isFree
theorem dX2_waitsForOwn_0 : decode cX2_waitsForOwn 0 = .ok (.iconst 0, 1) := by decide +kernel
theorem dX2_waitsForOwn_1 : decode cX2_waitsForOwn 1 = .ok (.istore_n 2, 1) := by decide +kernel
theorem dX2_waitsForOwn_2 : decode cX2_waitsForOwn 2 = .ok (.iload_n 2, 1) := by decide +kernel
theorem dX2_waitsForOwn_3 : decode cX2_waitsForOwn 3 = .ok (.aload_n 0, 1) := by decide +kernel
theorem dX2_waitsForOwn_4 : decode cX2_waitsForOwn 4 = .ok (.invokevirtual 98, 3) := by decide +kernel
theorem dX2_waitsForOwn_7 : decode cX2_waitsForOwn 7 = .ok (.if_icmp .ge 40, 3) := by decide +kernel
theorem dX2_waitsForOwn_10 : decode cX2_waitsForOwn 10 = .ok (.aload_n 0, 1) := by decide +kernel
theorem dX2_waitsForOwn_11 : decode cX2_waitsForOwn 11 = .ok (.getfield 32, 3) := by decide +kernel
theorem dX2_waitsForOwn_14 : decode cX2_waitsForOwn 14 = .ok (.iload_n 2, 1) := by decide +kernel
theorem dX2_waitsForOwn_15 : decode cX2_waitsForOwn 15 = .ok (.aaload, 1) := by decide +kernel
theorem dX2_waitsForOwn_16 : decode cX2_waitsForOwn 16 = .ok (.getfield 168, 3) := by decide +kernel
theorem dX2_waitsForOwn_19 : decode cX2_waitsForOwn 19 = .ok (.iload_n 1, 1) := by decide +kernel
theorem dX2_waitsForOwn_20 : decode cX2_waitsForOwn 20 = .ok (.if_icmp .ne 21, 3) := by decide +kernel
theorem dX2_waitsForOwn_23 : decode cX2_waitsForOwn 23 = .ok (.aload_n 0, 1) := by decide +kernel
theorem dX2_waitsForOwn_24 : decode cX2_waitsForOwn 24 = .ok (.getfield 32, 3) := by decide +kernel
theorem dX2_waitsForOwn_27 : decode cX2_waitsForOwn 27 = .ok (.iload_n 2, 1) := by decide +kernel
theorem dX2_waitsForOwn_28 : decode cX2_waitsForOwn 28 = .ok (.aaload, 1) := by decide +kernel
theorem dX2_waitsForOwn_29 : decode cX2_waitsForOwn 29 = .ok (.aload_n 0, 1) := by decide +kernel
theorem dX2_waitsForOwn_30 : decode cX2_waitsForOwn 30 = .ok (.getfield 53, 3) := by decide +kernel
theorem dX2_waitsForOwn_33 : decode cX2_waitsForOwn 33 = .ok (.invokevirtual 101, 3) := by decide +kernel
theorem dX2_waitsForOwn_36 : decode cX2_waitsForOwn 36 = .ok (.ifCond .ne 5, 3) := by decide +kernel
theorem dX2_waitsForOwn_39 : decode cX2_waitsForOwn 39 = .ok (.iconst 1, 1) := by decide +kernel
theorem dX2_waitsForOwn_40 : decode cX2_waitsForOwn 40 = .ok (.ireturn, 1) := by decide +kernel
theorem dX2_waitsForOwn_41 : decode cX2_waitsForOwn 41 = .ok (.iinc 2 1, 3) := by decide +kernel
theorem dX2_waitsForOwn_44 : decode cX2_waitsForOwn 44 = .ok (.goto (-42), 3) := by decide +kernel
theorem dX2_waitsForOwn_47 : decode cX2_waitsForOwn 47 = .ok (.iconst 0, 1) := by decide +kernel
theorem dX2_waitsForOwn_48 : decode cX2_waitsForOwn 48 = .ok (.ireturn, 1) := by decide +kernel
theorem dX2_closeUp_0 : decode cX2_closeUp 0 = .ok (.iconst 0, 1) := by decide +kernel
theorem dX2_closeUp_1 : decode cX2_closeUp 1 = .ok (.istore_n 1, 1) := by decide +kernel
theorem dX2_closeUp_2 : decode cX2_closeUp 2 = .ok (.iconst 0, 1) := by decide +kernel
theorem dX2_closeUp_3 : decode cX2_closeUp 3 = .ok (.istore_n 2, 1) := by decide +kernel
theorem dX2_closeUp_4 : decode cX2_closeUp 4 = .ok (.iload_n 2, 1) := by decide +kernel
theorem dX2_closeUp_5 : decode cX2_closeUp 5 = .ok (.aload_n 0, 1) := by decide +kernel
theorem dX2_closeUp_6 : decode cX2_closeUp 6 = .ok (.getfield 50, 3) := by decide +kernel
theorem dX2_closeUp_9 : decode cX2_closeUp 9 = .ok (.if_icmp .ge 42, 3) := by decide +kernel
theorem dX2_closeUp_12 : decode cX2_closeUp 12 = .ok (.aload_n 0, 1) := by decide +kernel
theorem dX2_closeUp_13 : decode cX2_closeUp 13 = .ok (.getfield 25, 3) := by decide +kernel
theorem dX2_closeUp_16 : decode cX2_closeUp 16 = .ok (.aload_n 0, 1) := by decide +kernel
theorem dX2_closeUp_17 : decode cX2_closeUp 17 = .ok (.getfield 37, 3) := by decide +kernel
theorem dX2_closeUp_20 : decode cX2_closeUp 20 = .ok (.iload_n 2, 1) := by decide +kernel
theorem dX2_closeUp_21 : decode cX2_closeUp 21 = .ok (.iaload, 1) := by decide +kernel
theorem dX2_closeUp_22 : decode cX2_closeUp 22 = .ok (.aaload, 1) := by decide +kernel
theorem dX2_closeUp_23 : decode cX2_closeUp 23 = .ok (.getfield 63, 3) := by decide +kernel
theorem dX2_closeUp_26 : decode cX2_closeUp 26 = .ok (.iconst 1, 1) := by decide +kernel
theorem dX2_closeUp_27 : decode cX2_closeUp 27 = .ok (.if_icmp .ne 18, 3) := by decide +kernel
theorem dX2_closeUp_30 : decode cX2_closeUp 30 = .ok (.aload_n 0, 1) := by decide +kernel
theorem dX2_closeUp_31 : decode cX2_closeUp 31 = .ok (.getfield 37, 3) := by decide +kernel
theorem dX2_closeUp_34 : decode cX2_closeUp 34 = .ok (.iload_n 1, 1) := by decide +kernel
theorem dX2_closeUp_35 : decode cX2_closeUp 35 = .ok (.aload_n 0, 1) := by decide +kernel
theorem dX2_closeUp_36 : decode cX2_closeUp 36 = .ok (.getfield 37, 3) := by decide +kernel
theorem dX2_closeUp_39 : decode cX2_closeUp 39 = .ok (.iload_n 2, 1) := by decide +kernel
theorem dX2_closeUp_40 : decode cX2_closeUp 40 = .ok (.iaload, 1) := by decide +kernel
theorem dX2_closeUp_41 : decode cX2_closeUp 41 = .ok (.iastore, 1) := by decide +kernel
theorem dX2_closeUp_42 : decode cX2_closeUp 42 = .ok (.iinc 1 1, 3) := by decide +kernel
theorem dX2_closeUp_45 : decode cX2_closeUp 45 = .ok (.iinc 2 1, 3) := by decide +kernel
theorem dX2_closeUp_48 : decode cX2_closeUp 48 = .ok (.goto (-44), 3) := by decide +kernel
theorem dX2_closeUp_51 : decode cX2_closeUp 51 = .ok (.aload_n 0, 1) := by decide +kernel
theorem dX2_closeUp_52 : decode cX2_closeUp 52 = .ok (.iload_n 1, 1) := by decide +kernel
theorem dX2_closeUp_53 : decode cX2_closeUp 53 = .ok (.putfield 50, 3) := by decide +kernel
theorem dX2_closeUp_56 : decode cX2_closeUp 56 = .ok (.return_, 1) := by decide +kernel
set_option maxRecDepth 20000 in
theorem ggX2_coolDown_X2_kettlesInUse : GoodIn wsX2_coolDown wsX2_kettlesInUse := goodIn_r _ [9, 4, 26, 27, 28, 29, 30, 31, 32, 33] (by decide +kernel) (by decide +kernel)
set_option maxRecDepth 20000 in
theorem gX2_coolDown_X2_kettlesInUse : GoodIn wsX2_coolDown (wsV RX2 98 RX2 yX2_kettlesInUse wsX2_kettlesInUse) := goodIn_app (goodIn_of _ (by decide +kernel)) ggX2_coolDown_X2_kettlesInUse
set_option maxRecDepth 20000 in
theorem ggX2_coolDown_X3_isFree : GoodIn wsX2_coolDown wsX3_isFree := goodIn_r _ [14, 15, 34, 35, 36, 37, 38] (by decide +kernel) (by decide +kernel)
set_option maxRecDepth 20000 in
theorem gX2_coolDown_X3_isFree : GoodIn wsX2_coolDown (wsV RX2 101 RX3 yX3_isFree wsX3_isFree) := goodIn_app (goodIn_of _ (by decide +kernel)) ggX2_coolDown_X3_isFree
set_option maxRecDepth 20000 in
theorem ggX2_coolDown_X3_cool : GoodIn wsX2_coolDown wsX3_cool := goodIn_r _ [19, 20, 21, 22, 23, 24, 25, 34, 35, 36, 37, 38] (by decide +kernel) (by decide +kernel)
set_option maxRecDepth 20000 in
theorem gX2_coolDown_X3_cool : GoodIn wsX2_coolDown (wsV RX2 171 RX3 yX3_cool wsX3_cool) := goodIn_app (goodIn_of _ (by decide +kernel)) ggX2_coolDown_X3_cool
theorem dX2_coolDown_0 : decode cX2_coolDown 0 = .ok (.iconst 0, 1) := by decide +kernel
theorem dX2_coolDown_1 : decode cX2_coolDown 1 = .ok (.istore_n 1, 1) := by decide +kernel
theorem dX2_coolDown_2 : decode cX2_coolDown 2 = .ok (.iload_n 1, 1) := by decide +kernel
theorem dX2_coolDown_3 : decode cX2_coolDown 3 = .ok (.aload_n 0, 1) := by decide +kernel
theorem dX2_coolDown_4 : decode cX2_coolDown 4 = .ok (.invokevirtual 98, 3) := by decide +kernel
theorem dX2_coolDown_7 : decode cX2_coolDown 7 = .ok (.if_icmp .ge 52, 3) := by decide +kernel
theorem dX2_coolDown_10 : decode cX2_coolDown 10 = .ok (.aload_n 0, 1) := by decide +kernel
theorem dX2_coolDown_11 : decode cX2_coolDown 11 = .ok (.getfield 32, 3) := by decide +kernel
theorem dX2_coolDown_14 : decode cX2_coolDown 14 = .ok (.iload_n 1, 1) := by decide +kernel
theorem dX2_coolDown_15 : decode cX2_coolDown 15 = .ok (.aaload, 1) := by decide +kernel
theorem dX2_coolDown_16 : decode cX2_coolDown 16 = .ok (.getfield 134, 3) := by decide +kernel
theorem dX2_coolDown_19 : decode cX2_coolDown 19 = .ok (.ifCond .le 34, 3) := by decide +kernel
theorem dX2_coolDown_22 : decode cX2_coolDown 22 = .ok (.aload_n 0, 1) := by decide +kernel
theorem dX2_coolDown_23 : decode cX2_coolDown 23 = .ok (.getfield 32, 3) := by decide +kernel
theorem dX2_coolDown_26 : decode cX2_coolDown 26 = .ok (.iload_n 1, 1) := by decide +kernel
theorem dX2_coolDown_27 : decode cX2_coolDown 27 = .ok (.aaload, 1) := by decide +kernel
theorem dX2_coolDown_28 : decode cX2_coolDown 28 = .ok (.aload_n 0, 1) := by decide +kernel
theorem dX2_coolDown_29 : decode cX2_coolDown 29 = .ok (.getfield 53, 3) := by decide +kernel
theorem dX2_coolDown_32 : decode cX2_coolDown 32 = .ok (.invokevirtual 101, 3) := by decide +kernel
theorem dX2_coolDown_35 : decode cX2_coolDown 35 = .ok (.ifCond .eq 18, 3) := by decide +kernel
theorem dX2_coolDown_38 : decode cX2_coolDown 38 = .ok (.aload_n 0, 1) := by decide +kernel
theorem dX2_coolDown_39 : decode cX2_coolDown 39 = .ok (.getfield 32, 3) := by decide +kernel
theorem dX2_coolDown_42 : decode cX2_coolDown 42 = .ok (.iload_n 1, 1) := by decide +kernel
theorem dX2_coolDown_43 : decode cX2_coolDown 43 = .ok (.aaload, 1) := by decide +kernel
theorem dX2_coolDown_44 : decode cX2_coolDown 44 = .ok (.aload_n 0, 1) := by decide +kernel
theorem dX2_coolDown_45 : decode cX2_coolDown 45 = .ok (.getfield 18, 3) := by decide +kernel
theorem dX2_coolDown_48 : decode cX2_coolDown 48 = .ok (.iconst 3, 1) := by decide +kernel
theorem dX2_coolDown_49 : decode cX2_coolDown 49 = .ok (.iaload, 1) := by decide +kernel
theorem dX2_coolDown_50 : decode cX2_coolDown 50 = .ok (.invokevirtual 171, 3) := by decide +kernel
theorem dX2_coolDown_53 : decode cX2_coolDown 53 = .ok (.iinc 1 1, 3) := by decide +kernel
theorem dX2_coolDown_56 : decode cX2_coolDown 56 = .ok (.goto (-54), 3) := by decide +kernel
theorem dX2_coolDown_59 : decode cX2_coolDown 59 = .ok (.return_, 1) := by decide +kernel
set_option maxRecDepth 20000 in
theorem ggX2_upTo_X2_wantsInLine : GoodIn wsX2_upTo wsX2_wantsInLine := goodIn_r _ [16, 17, 18, 19, 1, 32, 33, 34, 35, 36, 37, 38, 39, 25, 26, 27, 28, 29, 30, 31] (by decide +kernel) (by decide +kernel)
set_option maxRecDepth 20000 in
theorem gX2_upTo_X2_wantsInLine : GoodIn wsX2_upTo (wsV RX2 174 RX2 yX2_wantsInLine wsX2_wantsInLine) := goodIn_app (goodIn_of _ (by decide +kernel)) ggX2_upTo_X2_wantsInLine
set_option maxRecDepth 20000 in
theorem ggX2_upTo_X2_wantsToCome : GoodIn wsX2_upTo wsX2_wantsToCome := goodIn_r _ [23, 17, 18, 19, 24, 1, 32, 33, 34, 35, 36, 37, 38, 39, 25, 26, 27, 28, 29, 30, 31] (by decide +kernel) (by decide +kernel)
set_option maxRecDepth 20000 in
theorem gX2_upTo_X2_wantsToCome : GoodIn wsX2_upTo (wsV RX2 180 RX2 yX2_wantsToCome wsX2_wantsToCome) := goodIn_app (goodIn_of _ (by decide +kernel)) ggX2_upTo_X2_wantsToCome
theorem dX2_upTo_0 : decode cX2_upTo 0 = .ok (.iload_n 2, 1) := by decide +kernel
theorem dX2_upTo_1 : decode cX2_upTo 1 = .ok (.tableswitch 106 1 6 #[39, 47, 57, 65, 87, 98], 39) := by decide +kernel
theorem dX2_upTo_40 : decode cX2_upTo 40 = .ok (.aload_n 1, 1) := by decide +kernel
theorem dX2_upTo_41 : decode cX2_upTo 41 = .ok (.getfield 84, 3) := by decide +kernel
theorem dX2_upTo_44 : decode cX2_upTo 44 = .ok (.istore_n 3, 1) := by decide +kernel
theorem dX2_upTo_45 : decode cX2_upTo 45 = .ok (.goto 69, 3) := by decide +kernel
theorem dX2_upTo_48 : decode cX2_upTo 48 = .ok (.aload_n 0, 1) := by decide +kernel
theorem dX2_upTo_49 : decode cX2_upTo 49 = .ok (.getfield 18, 3) := by decide +kernel
theorem dX2_upTo_52 : decode cX2_upTo 52 = .ok (.iconst 0, 1) := by decide +kernel
theorem dX2_upTo_53 : decode cX2_upTo 53 = .ok (.iaload, 1) := by decide +kernel
theorem dX2_upTo_54 : decode cX2_upTo 54 = .ok (.istore_n 3, 1) := by decide +kernel
theorem dX2_upTo_55 : decode cX2_upTo 55 = .ok (.goto 59, 3) := by decide +kernel
theorem dX2_upTo_58 : decode cX2_upTo 58 = .ok (.aload_n 0, 1) := by decide +kernel
theorem dX2_upTo_59 : decode cX2_upTo 59 = .ok (.invokevirtual 174, 3) := by decide +kernel
theorem dX2_upTo_62 : decode cX2_upTo 62 = .ok (.istore_n 3, 1) := by decide +kernel
theorem dX2_upTo_63 : decode cX2_upTo 63 = .ok (.goto 51, 3) := by decide +kernel
theorem dX2_upTo_66 : decode cX2_upTo 66 = .ok (.aload_n 0, 1) := by decide +kernel
theorem dX2_upTo_67 : decode cX2_upTo 67 = .ok (.invokevirtual 174, 3) := by decide +kernel
theorem dX2_upTo_70 : decode cX2_upTo 70 = .ok (.aload_n 0, 1) := by decide +kernel
theorem dX2_upTo_71 : decode cX2_upTo 71 = .ok (.aload_n 0, 1) := by decide +kernel
theorem dX2_upTo_72 : decode cX2_upTo 72 = .ok (.getfield 53, 3) := by decide +kernel
theorem dX2_upTo_75 : decode cX2_upTo 75 = .ok (.aload_n 1, 1) := by decide +kernel
theorem dX2_upTo_76 : decode cX2_upTo 76 = .ok (.getfield 177, 3) := by decide +kernel
theorem dX2_upTo_79 : decode cX2_upTo 79 = .ok (.iadd, 1) := by decide +kernel
theorem dX2_upTo_80 : decode cX2_upTo 80 = .ok (.invokevirtual 180, 3) := by decide +kernel
theorem dX2_upTo_83 : decode cX2_upTo 83 = .ok (.iadd, 1) := by decide +kernel
theorem dX2_upTo_84 : decode cX2_upTo 84 = .ok (.istore_n 3, 1) := by decide +kernel
theorem dX2_upTo_85 : decode cX2_upTo 85 = .ok (.goto 29, 3) := by decide +kernel
theorem dX2_upTo_88 : decode cX2_upTo 88 = .ok (.aload_n 0, 1) := by decide +kernel
theorem dX2_upTo_89 : decode cX2_upTo 89 = .ok (.getfield 18, 3) := by decide +kernel
theorem dX2_upTo_92 : decode cX2_upTo 92 = .ok (.bipush 6, 2) := by decide +kernel
theorem dX2_upTo_94 : decode cX2_upTo 94 = .ok (.iaload, 1) := by decide +kernel
theorem dX2_upTo_95 : decode cX2_upTo 95 = .ok (.istore_n 3, 1) := by decide +kernel
theorem dX2_upTo_96 : decode cX2_upTo 96 = .ok (.goto 18, 3) := by decide +kernel
theorem dX2_upTo_99 : decode cX2_upTo 99 = .ok (.aload_n 1, 1) := by decide +kernel
theorem dX2_upTo_100 : decode cX2_upTo 100 = .ok (.getfield 177, 3) := by decide +kernel
theorem dX2_upTo_103 : decode cX2_upTo 103 = .ok (.istore_n 3, 1) := by decide +kernel
theorem dX2_upTo_104 : decode cX2_upTo 104 = .ok (.goto 10, 3) := by decide +kernel
theorem dX2_upTo_107 : decode cX2_upTo 107 = .ok (.aload_n 1, 1) := by decide +kernel
theorem dX2_upTo_108 : decode cX2_upTo 108 = .ok (.getfield 84, 3) := by decide +kernel
theorem dX2_upTo_111 : decode cX2_upTo 111 = .ok (.iconst 1, 1) := by decide +kernel
theorem dX2_upTo_112 : decode cX2_upTo 112 = .ok (.iadd, 1) := by decide +kernel
theorem dX2_upTo_113 : decode cX2_upTo 113 = .ok (.istore_n 3, 1) := by decide +kernel
theorem dX2_upTo_114 : decode cX2_upTo 114 = .ok (.aload_n 0, 1) := by decide +kernel
theorem dX2_upTo_115 : decode cX2_upTo 115 = .ok (.getfield 18, 3) := by decide +kernel
theorem dX2_upTo_118 : decode cX2_upTo 118 = .ok (.iconst 0, 1) := by decide +kernel
theorem dX2_upTo_119 : decode cX2_upTo 119 = .ok (.iaload, 1) := by decide +kernel
theorem dX2_upTo_120 : decode cX2_upTo 120 = .ok (.aload_n 1, 1) := by decide +kernel
theorem dX2_upTo_121 : decode cX2_upTo 121 = .ok (.getfield 84, 3) := by decide +kernel
theorem dX2_upTo_124 : decode cX2_upTo 124 = .ok (.iload_n 3, 1) := by decide +kernel
theorem dX2_upTo_125 : decode cX2_upTo 125 = .ok (.invokestatic 183, 3) := by decide +kernel
theorem dX2_upTo_128 : decode cX2_upTo 128 = .ok (.invokestatic 189, 3) := by decide +kernel
theorem dX2_upTo_131 : decode cX2_upTo 131 = .ok (.ireturn, 1) := by decide +kernel
theorem dX2_wantsInLine_0 : decode cX2_wantsInLine 0 = .ok (.iconst 0, 1) := by decide +kernel
theorem dX2_wantsInLine_1 : decode cX2_wantsInLine 1 = .ok (.istore_n 1, 1) := by decide +kernel
theorem dX2_wantsInLine_2 : decode cX2_wantsInLine 2 = .ok (.iconst 0, 1) := by decide +kernel
theorem dX2_wantsInLine_3 : decode cX2_wantsInLine 3 = .ok (.istore_n 2, 1) := by decide +kernel
theorem dX2_wantsInLine_4 : decode cX2_wantsInLine 4 = .ok (.iload_n 2, 1) := by decide +kernel
theorem dX2_wantsInLine_5 : decode cX2_wantsInLine 5 = .ok (.aload_n 0, 1) := by decide +kernel
theorem dX2_wantsInLine_6 : decode cX2_wantsInLine 6 = .ok (.getfield 46, 3) := by decide +kernel
theorem dX2_wantsInLine_9 : decode cX2_wantsInLine 9 = .ok (.if_icmp .ge 34, 3) := by decide +kernel
theorem dX2_wantsInLine_12 : decode cX2_wantsInLine 12 = .ok (.aload_n 0, 1) := by decide +kernel
theorem dX2_wantsInLine_13 : decode cX2_wantsInLine 13 = .ok (.getfield 25, 3) := by decide +kernel
theorem dX2_wantsInLine_16 : decode cX2_wantsInLine 16 = .ok (.iload_n 2, 1) := by decide +kernel
theorem dX2_wantsInLine_17 : decode cX2_wantsInLine 17 = .ok (.aaload, 1) := by decide +kernel
theorem dX2_wantsInLine_18 : decode cX2_wantsInLine 18 = .ok (.getfield 63, 3) := by decide +kernel
theorem dX2_wantsInLine_21 : decode cX2_wantsInLine 21 = .ok (.iconst 1, 1) := by decide +kernel
theorem dX2_wantsInLine_22 : decode cX2_wantsInLine 22 = .ok (.if_icmp .ne 15, 3) := by decide +kernel
theorem dX2_wantsInLine_25 : decode cX2_wantsInLine 25 = .ok (.iload_n 1, 1) := by decide +kernel
theorem dX2_wantsInLine_26 : decode cX2_wantsInLine 26 = .ok (.aload_n 0, 1) := by decide +kernel
theorem dX2_wantsInLine_27 : decode cX2_wantsInLine 27 = .ok (.getfield 25, 3) := by decide +kernel
theorem dX2_wantsInLine_30 : decode cX2_wantsInLine 30 = .ok (.iload_n 2, 1) := by decide +kernel
theorem dX2_wantsInLine_31 : decode cX2_wantsInLine 31 = .ok (.aaload, 1) := by decide +kernel
theorem dX2_wantsInLine_32 : decode cX2_wantsInLine 32 = .ok (.getfield 84, 3) := by decide +kernel
theorem dX2_wantsInLine_35 : decode cX2_wantsInLine 35 = .ok (.iadd, 1) := by decide +kernel
theorem dX2_wantsInLine_36 : decode cX2_wantsInLine 36 = .ok (.istore_n 1, 1) := by decide +kernel
theorem dX2_wantsInLine_37 : decode cX2_wantsInLine 37 = .ok (.iinc 2 1, 3) := by decide +kernel
theorem dX2_wantsInLine_40 : decode cX2_wantsInLine 40 = .ok (.goto (-36), 3) := by decide +kernel
theorem dX2_wantsInLine_43 : decode cX2_wantsInLine 43 = .ok (.iload_n 1, 1) := by decide +kernel
theorem dX2_wantsInLine_44 : decode cX2_wantsInLine 44 = .ok (.ireturn, 1) := by decide +kernel
theorem dX2_wantsToCome_0 : decode cX2_wantsToCome 0 = .ok (.iconst 0, 1) := by decide +kernel
theorem dX2_wantsToCome_1 : decode cX2_wantsToCome 1 = .ok (.istore_n 2, 1) := by decide +kernel
theorem dX2_wantsToCome_2 : decode cX2_wantsToCome 2 = .ok (.iconst 0, 1) := by decide +kernel
theorem dX2_wantsToCome_3 : decode cX2_wantsToCome 3 = .ok (.istore_n 3, 1) := by decide +kernel
theorem dX2_wantsToCome_4 : decode cX2_wantsToCome 4 = .ok (.iload_n 3, 1) := by decide +kernel
theorem dX2_wantsToCome_5 : decode cX2_wantsToCome 5 = .ok (.aload_n 0, 1) := by decide +kernel
theorem dX2_wantsToCome_6 : decode cX2_wantsToCome 6 = .ok (.getfield 46, 3) := by decide +kernel
theorem dX2_wantsToCome_9 : decode cX2_wantsToCome 9 = .ok (.if_icmp .ge 46, 3) := by decide +kernel
theorem dX2_wantsToCome_12 : decode cX2_wantsToCome 12 = .ok (.aload_n 0, 1) := by decide +kernel
theorem dX2_wantsToCome_13 : decode cX2_wantsToCome 13 = .ok (.getfield 25, 3) := by decide +kernel
theorem dX2_wantsToCome_16 : decode cX2_wantsToCome 16 = .ok (.iload_n 3, 1) := by decide +kernel
theorem dX2_wantsToCome_17 : decode cX2_wantsToCome 17 = .ok (.aaload, 1) := by decide +kernel
theorem dX2_wantsToCome_18 : decode cX2_wantsToCome 18 = .ok (.getfield 63, 3) := by decide +kernel
theorem dX2_wantsToCome_21 : decode cX2_wantsToCome 21 = .ok (.ifCond .ne 28, 3) := by decide +kernel
theorem dX2_wantsToCome_24 : decode cX2_wantsToCome 24 = .ok (.aload_n 0, 1) := by decide +kernel
theorem dX2_wantsToCome_25 : decode cX2_wantsToCome 25 = .ok (.getfield 25, 3) := by decide +kernel
theorem dX2_wantsToCome_28 : decode cX2_wantsToCome 28 = .ok (.iload_n 3, 1) := by decide +kernel
theorem dX2_wantsToCome_29 : decode cX2_wantsToCome 29 = .ok (.aaload, 1) := by decide +kernel
theorem dX2_wantsToCome_30 : decode cX2_wantsToCome 30 = .ok (.getfield 83, 3) := by decide +kernel
theorem dX2_wantsToCome_33 : decode cX2_wantsToCome 33 = .ok (.iload_n 1, 1) := by decide +kernel
theorem dX2_wantsToCome_34 : decode cX2_wantsToCome 34 = .ok (.if_icmp .gt 15, 3) := by decide +kernel
theorem dX2_wantsToCome_37 : decode cX2_wantsToCome 37 = .ok (.iload_n 2, 1) := by decide +kernel
theorem dX2_wantsToCome_38 : decode cX2_wantsToCome 38 = .ok (.aload_n 0, 1) := by decide +kernel
theorem dX2_wantsToCome_39 : decode cX2_wantsToCome 39 = .ok (.getfield 25, 3) := by decide +kernel
theorem dX2_wantsToCome_42 : decode cX2_wantsToCome 42 = .ok (.iload_n 3, 1) := by decide +kernel
theorem dX2_wantsToCome_43 : decode cX2_wantsToCome 43 = .ok (.aaload, 1) := by decide +kernel
theorem dX2_wantsToCome_44 : decode cX2_wantsToCome 44 = .ok (.getfield 84, 3) := by decide +kernel
theorem dX2_wantsToCome_47 : decode cX2_wantsToCome 47 = .ok (.iadd, 1) := by decide +kernel
theorem dX2_wantsToCome_48 : decode cX2_wantsToCome 48 = .ok (.istore_n 2, 1) := by decide +kernel
theorem dX2_wantsToCome_49 : decode cX2_wantsToCome 49 = .ok (.iinc 3 1, 3) := by decide +kernel
theorem dX2_wantsToCome_52 : decode cX2_wantsToCome 52 = .ok (.goto (-48), 3) := by decide +kernel
theorem dX2_wantsToCome_55 : decode cX2_wantsToCome 55 = .ok (.iload_n 2, 1) := by decide +kernel
theorem dX2_wantsToCome_56 : decode cX2_wantsToCome 56 = .ok (.ireturn, 1) := by decide +kernel
set_option maxRecDepth 20000 in
theorem ggX2_kindsThatFill_X2_upTo : GoodIn wsX2_kindsThatFill wsX2_upTo := goodIn_r _ [8, 9, 10, 11, 12, 13, 14, 15, 16, 17, 18, 19, 20, 21, 22, 7, 23, 24, 2, 25, 26, 27, 28, 29, 30, 39, 40, 41, 42, 43, 44, 45, 31, 32, 33, 34, 35, 36, 37, 38] (by decide +kernel) (by decide +kernel)
set_option maxRecDepth 20000 in
theorem gX2_kindsThatFill_X2_upTo : GoodIn wsX2_kindsThatFill (wsV RX2 150 RX2 yX2_upTo wsX2_upTo) := goodIn_app (goodIn_of _ (by decide +kernel)) ggX2_kindsThatFill_X2_upTo
theorem dX2_kindsThatFill_0 : decode cX2_kindsThatFill 0 = .ok (.iconst 0, 1) := by decide +kernel
theorem dX2_kindsThatFill_1 : decode cX2_kindsThatFill 1 = .ok (.istore_n 2, 1) := by decide +kernel
theorem dX2_kindsThatFill_2 : decode cX2_kindsThatFill 2 = .ok (.iconst 0, 1) := by decide +kernel
theorem dX2_kindsThatFill_3 : decode cX2_kindsThatFill 3 = .ok (.istore_n 3, 1) := by decide +kernel
theorem dX2_kindsThatFill_4 : decode cX2_kindsThatFill 4 = .ok (.iload_n 3, 1) := by decide +kernel
theorem dX2_kindsThatFill_5 : decode cX2_kindsThatFill 5 = .ok (.bipush 7, 2) := by decide +kernel
theorem dX2_kindsThatFill_7 : decode cX2_kindsThatFill 7 = .ok (.if_icmp .ge 42, 3) := by decide +kernel
theorem dX2_kindsThatFill_10 : decode cX2_kindsThatFill 10 = .ok (.aload_n 0, 1) := by decide +kernel
theorem dX2_kindsThatFill_11 : decode cX2_kindsThatFill 11 = .ok (.getfield 50, 3) := by decide +kernel
theorem dX2_kindsThatFill_14 : decode cX2_kindsThatFill 14 = .ok (.ifCond .le 35, 3) := by decide +kernel
theorem dX2_kindsThatFill_17 : decode cX2_kindsThatFill 17 = .ok (.aload_n 0, 1) := by decide +kernel
theorem dX2_kindsThatFill_18 : decode cX2_kindsThatFill 18 = .ok (.aload_n 0, 1) := by decide +kernel
theorem dX2_kindsThatFill_19 : decode cX2_kindsThatFill 19 = .ok (.getfield 25, 3) := by decide +kernel
theorem dX2_kindsThatFill_22 : decode cX2_kindsThatFill 22 = .ok (.aload_n 0, 1) := by decide +kernel
theorem dX2_kindsThatFill_23 : decode cX2_kindsThatFill 23 = .ok (.getfield 37, 3) := by decide +kernel
theorem dX2_kindsThatFill_26 : decode cX2_kindsThatFill 26 = .ok (.iconst 0, 1) := by decide +kernel
theorem dX2_kindsThatFill_27 : decode cX2_kindsThatFill 27 = .ok (.iaload, 1) := by decide +kernel
theorem dX2_kindsThatFill_28 : decode cX2_kindsThatFill 28 = .ok (.aaload, 1) := by decide +kernel
theorem dX2_kindsThatFill_29 : decode cX2_kindsThatFill 29 = .ok (.iload_n 3, 1) := by decide +kernel
theorem dX2_kindsThatFill_30 : decode cX2_kindsThatFill 30 = .ok (.invokevirtual 150, 3) := by decide +kernel
theorem dX2_kindsThatFill_33 : decode cX2_kindsThatFill 33 = .ok (.iload_n 1, 1) := by decide +kernel
theorem dX2_kindsThatFill_34 : decode cX2_kindsThatFill 34 = .ok (.if_icmp .ne 9, 3) := by decide +kernel
theorem dX2_kindsThatFill_37 : decode cX2_kindsThatFill 37 = .ok (.iload_n 2, 1) := by decide +kernel
theorem dX2_kindsThatFill_38 : decode cX2_kindsThatFill 38 = .ok (.iconst 1, 1) := by decide +kernel
theorem dX2_kindsThatFill_39 : decode cX2_kindsThatFill 39 = .ok (.iload_n 3, 1) := by decide +kernel
theorem dX2_kindsThatFill_40 : decode cX2_kindsThatFill 40 = .ok (.ishl, 1) := by decide +kernel
theorem dX2_kindsThatFill_41 : decode cX2_kindsThatFill 41 = .ok (.ior, 1) := by decide +kernel
theorem dX2_kindsThatFill_42 : decode cX2_kindsThatFill 42 = .ok (.istore_n 2, 1) := by decide +kernel
theorem dX2_kindsThatFill_43 : decode cX2_kindsThatFill 43 = .ok (.iinc 3 1, 3) := by decide +kernel
theorem dX2_kindsThatFill_46 : decode cX2_kindsThatFill 46 = .ok (.goto (-42), 3) := by decide +kernel
theorem dX2_kindsThatFill_49 : decode cX2_kindsThatFill 49 = .ok (.iload_n 2, 1) := by decide +kernel
theorem dX2_kindsThatFill_50 : decode cX2_kindsThatFill 50 = .ok (.ireturn, 1) := by decide +kernel
theorem dX2_comersWith_0 : decode cX2_comersWith 0 = .ok (.iconst 0, 1) := by decide +kernel
theorem dX2_comersWith_1 : decode cX2_comersWith 1 = .ok (.istore_n 2, 1) := by decide +kernel
theorem dX2_comersWith_2 : decode cX2_comersWith 2 = .ok (.iconst 0, 1) := by decide +kernel
theorem dX2_comersWith_3 : decode cX2_comersWith 3 = .ok (.istore_n 3, 1) := by decide +kernel
theorem dX2_comersWith_4 : decode cX2_comersWith 4 = .ok (.iload_n 3, 1) := by decide +kernel
theorem dX2_comersWith_5 : decode cX2_comersWith 5 = .ok (.aload_n 0, 1) := by decide +kernel
theorem dX2_comersWith_6 : decode cX2_comersWith 6 = .ok (.getfield 46, 3) := by decide +kernel
theorem dX2_comersWith_9 : decode cX2_comersWith 9 = .ok (.if_icmp .ge 25, 3) := by decide +kernel
theorem dX2_comersWith_12 : decode cX2_comersWith 12 = .ok (.aload_n 0, 1) := by decide +kernel
theorem dX2_comersWith_13 : decode cX2_comersWith 13 = .ok (.getfield 25, 3) := by decide +kernel
theorem dX2_comersWith_16 : decode cX2_comersWith 16 = .ok (.iload_n 3, 1) := by decide +kernel
theorem dX2_comersWith_17 : decode cX2_comersWith 17 = .ok (.aaload, 1) := by decide +kernel
theorem dX2_comersWith_18 : decode cX2_comersWith 18 = .ok (.getfield 63, 3) := by decide +kernel
theorem dX2_comersWith_21 : decode cX2_comersWith 21 = .ok (.iload_n 1, 1) := by decide +kernel
theorem dX2_comersWith_22 : decode cX2_comersWith 22 = .ok (.if_icmp .ne 6, 3) := by decide +kernel
theorem dX2_comersWith_25 : decode cX2_comersWith 25 = .ok (.iinc 2 1, 3) := by decide +kernel
theorem dX2_comersWith_28 : decode cX2_comersWith 28 = .ok (.iinc 3 1, 3) := by decide +kernel
theorem dX2_comersWith_31 : decode cX2_comersWith 31 = .ok (.goto (-27), 3) := by decide +kernel
theorem dX2_comersWith_34 : decode cX2_comersWith 34 = .ok (.iload_n 2, 1) := by decide +kernel
theorem dX2_comersWith_35 : decode cX2_comersWith 35 = .ok (.ireturn, 1) := by decide +kernel
theorem dX2_someoneWantsTooMuch_0 : decode cX2_someoneWantsTooMuch 0 = .ok (.iconst 0, 1) := by decide +kernel
theorem dX2_someoneWantsTooMuch_1 : decode cX2_someoneWantsTooMuch 1 = .ok (.istore_n 1, 1) := by decide +kernel
theorem dX2_someoneWantsTooMuch_2 : decode cX2_someoneWantsTooMuch 2 = .ok (.iload_n 1, 1) := by decide +kernel
theorem dX2_someoneWantsTooMuch_3 : decode cX2_someoneWantsTooMuch 3 = .ok (.aload_n 0, 1) := by decide +kernel
theorem dX2_someoneWantsTooMuch_4 : decode cX2_someoneWantsTooMuch 4 = .ok (.getfield 46, 3) := by decide +kernel
theorem dX2_someoneWantsTooMuch_7 : decode cX2_someoneWantsTooMuch 7 = .ok (.if_icmp .ge 29, 3) := by decide +kernel
theorem dX2_someoneWantsTooMuch_10 : decode cX2_someoneWantsTooMuch 10 = .ok (.aload_n 0, 1) := by decide +kernel
theorem dX2_someoneWantsTooMuch_11 : decode cX2_someoneWantsTooMuch 11 = .ok (.getfield 25, 3) := by decide +kernel
theorem dX2_someoneWantsTooMuch_14 : decode cX2_someoneWantsTooMuch 14 = .ok (.iload_n 1, 1) := by decide +kernel
theorem dX2_someoneWantsTooMuch_15 : decode cX2_someoneWantsTooMuch 15 = .ok (.aaload, 1) := by decide +kernel
theorem dX2_someoneWantsTooMuch_16 : decode cX2_someoneWantsTooMuch 16 = .ok (.getfield 84, 3) := by decide +kernel
theorem dX2_someoneWantsTooMuch_19 : decode cX2_someoneWantsTooMuch 19 = .ok (.aload_n 0, 1) := by decide +kernel
theorem dX2_someoneWantsTooMuch_20 : decode cX2_someoneWantsTooMuch 20 = .ok (.getfield 18, 3) := by decide +kernel
theorem dX2_someoneWantsTooMuch_23 : decode cX2_someoneWantsTooMuch 23 = .ok (.iconst 0, 1) := by decide +kernel
theorem dX2_someoneWantsTooMuch_24 : decode cX2_someoneWantsTooMuch 24 = .ok (.iaload, 1) := by decide +kernel
theorem dX2_someoneWantsTooMuch_25 : decode cX2_someoneWantsTooMuch 25 = .ok (.if_icmp .le 5, 3) := by decide +kernel
theorem dX2_someoneWantsTooMuch_28 : decode cX2_someoneWantsTooMuch 28 = .ok (.iconst 1, 1) := by decide +kernel
theorem dX2_someoneWantsTooMuch_29 : decode cX2_someoneWantsTooMuch 29 = .ok (.ireturn, 1) := by decide +kernel
theorem dX2_someoneWantsTooMuch_30 : decode cX2_someoneWantsTooMuch 30 = .ok (.iinc 1 1, 3) := by decide +kernel
theorem dX2_someoneWantsTooMuch_33 : decode cX2_someoneWantsTooMuch 33 = .ok (.goto (-31), 3) := by decide +kernel
theorem dX2_someoneWantsTooMuch_36 : decode cX2_someoneWantsTooMuch 36 = .ok (.iconst 0, 1) := by decide +kernel
theorem dX2_someoneWantsTooMuch_37 : decode cX2_someoneWantsTooMuch 37 = .ok (.ireturn, 1) := by decide +kernel
set_option maxRecDepth 20000 in
theorem ggX2_allWaited_X1_waited : GoodIn wsX2_allWaited wsX1_waited := goodIn_r _ [7, 8, 9, 10, 11, 20, 21, 22, 23, 24, 25, 26] (by decide +kernel) (by decide +kernel)
set_option maxRecDepth 20000 in
theorem gX2_allWaited_X1_waited : GoodIn wsX2_allWaited (wsV RX2 192 RX1 yX1_waited wsX1_waited) := goodIn_app (goodIn_of _ (by decide +kernel)) ggX2_allWaited_X1_waited
theorem dX2_allWaited_0 : decode cX2_allWaited 0 = .ok (.iconst 0, 1) := by decide +kernel
theorem dX2_allWaited_1 : decode cX2_allWaited 1 = .ok (.istore_n 1, 1) := by decide +kernel
theorem dX2_allWaited_2 : decode cX2_allWaited 2 = .ok (.iconst 0, 1) := by decide +kernel
theorem dX2_allWaited_3 : decode cX2_allWaited 3 = .ok (.istore_n 2, 1) := by decide +kernel
theorem dX2_allWaited_4 : decode cX2_allWaited 4 = .ok (.iload_n 2, 1) := by decide +kernel
theorem dX2_allWaited_5 : decode cX2_allWaited 5 = .ok (.aload_n 0, 1) := by decide +kernel
theorem dX2_allWaited_6 : decode cX2_allWaited 6 = .ok (.getfield 46, 3) := by decide +kernel
theorem dX2_allWaited_9 : decode cX2_allWaited 9 = .ok (.if_icmp .ge 21, 3) := by decide +kernel
theorem dX2_allWaited_12 : decode cX2_allWaited 12 = .ok (.iload_n 1, 1) := by decide +kernel
theorem dX2_allWaited_13 : decode cX2_allWaited 13 = .ok (.aload_n 0, 1) := by decide +kernel
theorem dX2_allWaited_14 : decode cX2_allWaited 14 = .ok (.getfield 25, 3) := by decide +kernel
theorem dX2_allWaited_17 : decode cX2_allWaited 17 = .ok (.iload_n 2, 1) := by decide +kernel
theorem dX2_allWaited_18 : decode cX2_allWaited 18 = .ok (.aaload, 1) := by decide +kernel
theorem dX2_allWaited_19 : decode cX2_allWaited 19 = .ok (.invokevirtual 192, 3) := by decide +kernel
theorem dX2_allWaited_22 : decode cX2_allWaited 22 = .ok (.iadd, 1) := by decide +kernel
theorem dX2_allWaited_23 : decode cX2_allWaited 23 = .ok (.istore_n 1, 1) := by decide +kernel
theorem dX2_allWaited_24 : decode cX2_allWaited 24 = .ok (.iinc 2 1, 3) := by decide +kernel
theorem dX2_allWaited_27 : decode cX2_allWaited 27 = .ok (.goto (-23), 3) := by decide +kernel
theorem dX2_allWaited_30 : decode cX2_allWaited 30 = .ok (.iload_n 1, 1) := by decide +kernel
theorem dX2_allWaited_31 : decode cX2_allWaited 31 = .ok (.ireturn, 1) := by decide +kernel
set_option maxRecDepth 20000 in
theorem ggX2_cupsLeft_X2_kettlesInUse : GoodIn wsX2_cupsLeft wsX2_kettlesInUse := goodIn_r _ [7, 8, 9, 10, 11, 12, 13, 14, 15, 16] (by decide +kernel) (by decide +kernel)
set_option maxRecDepth 20000 in
theorem gX2_cupsLeft_X2_kettlesInUse : GoodIn wsX2_cupsLeft (wsV RX2 98 RX2 yX2_kettlesInUse wsX2_kettlesInUse) := goodIn_app (goodIn_of _ (by decide +kernel)) ggX2_cupsLeft_X2_kettlesInUse
theorem dX2_cupsLeft_0 : decode cX2_cupsLeft 0 = .ok (.iconst 0, 1) := by decide +kernel
theorem dX2_cupsLeft_1 : decode cX2_cupsLeft 1 = .ok (.istore_n 1, 1) := by decide +kernel
theorem dX2_cupsLeft_2 : decode cX2_cupsLeft 2 = .ok (.iconst 0, 1) := by decide +kernel
theorem dX2_cupsLeft_3 : decode cX2_cupsLeft 3 = .ok (.istore_n 2, 1) := by decide +kernel
theorem dX2_cupsLeft_4 : decode cX2_cupsLeft 4 = .ok (.iload_n 2, 1) := by decide +kernel
theorem dX2_cupsLeft_5 : decode cX2_cupsLeft 5 = .ok (.aload_n 0, 1) := by decide +kernel
theorem dX2_cupsLeft_6 : decode cX2_cupsLeft 6 = .ok (.invokevirtual 98, 3) := by decide +kernel
theorem dX2_cupsLeft_9 : decode cX2_cupsLeft 9 = .ok (.if_icmp .ge 21, 3) := by decide +kernel
theorem dX2_cupsLeft_12 : decode cX2_cupsLeft 12 = .ok (.iload_n 1, 1) := by decide +kernel
theorem dX2_cupsLeft_13 : decode cX2_cupsLeft 13 = .ok (.aload_n 0, 1) := by decide +kernel
theorem dX2_cupsLeft_14 : decode cX2_cupsLeft 14 = .ok (.getfield 32, 3) := by decide +kernel
theorem dX2_cupsLeft_17 : decode cX2_cupsLeft 17 = .ok (.iload_n 2, 1) := by decide +kernel
theorem dX2_cupsLeft_18 : decode cX2_cupsLeft 18 = .ok (.aaload, 1) := by decide +kernel
theorem dX2_cupsLeft_19 : decode cX2_cupsLeft 19 = .ok (.getfield 134, 3) := by decide +kernel
theorem dX2_cupsLeft_22 : decode cX2_cupsLeft 22 = .ok (.iadd, 1) := by decide +kernel
theorem dX2_cupsLeft_23 : decode cX2_cupsLeft 23 = .ok (.istore_n 1, 1) := by decide +kernel
theorem dX2_cupsLeft_24 : decode cX2_cupsLeft 24 = .ok (.iinc 2 1, 3) := by decide +kernel
theorem dX2_cupsLeft_27 : decode cX2_cupsLeft 27 = .ok (.goto (-23), 3) := by decide +kernel
theorem dX2_cupsLeft_30 : decode cX2_cupsLeft 30 = .ok (.iload_n 1, 1) := by decide +kernel
theorem dX2_cupsLeft_31 : decode cX2_cupsLeft 31 = .ok (.ireturn, 1) := by decide +kernel
set_option maxRecDepth 20000 in
theorem ggX2_highestLevel_X2_kettlesInUse : GoodIn wsX2_highestLevel wsX2_kettlesInUse := goodIn_r _ [11, 12, 13, 14, 15, 16, 17, 18, 19, 20] (by decide +kernel) (by decide +kernel)
set_option maxRecDepth 20000 in
theorem gX2_highestLevel_X2_kettlesInUse : GoodIn wsX2_highestLevel (wsV RX2 98 RX2 yX2_kettlesInUse wsX2_kettlesInUse) := goodIn_app (goodIn_of _ (by decide +kernel)) ggX2_highestLevel_X2_kettlesInUse
theorem dX2_highestLevel_0 : decode cX2_highestLevel 0 = .ok (.iconst 0, 1) := by decide +kernel
theorem dX2_highestLevel_1 : decode cX2_highestLevel 1 = .ok (.istore_n 1, 1) := by decide +kernel
theorem dX2_highestLevel_2 : decode cX2_highestLevel 2 = .ok (.iconst 0, 1) := by decide +kernel
theorem dX2_highestLevel_3 : decode cX2_highestLevel 3 = .ok (.istore_n 2, 1) := by decide +kernel
theorem dX2_highestLevel_4 : decode cX2_highestLevel 4 = .ok (.iload_n 2, 1) := by decide +kernel
theorem dX2_highestLevel_5 : decode cX2_highestLevel 5 = .ok (.aload_n 0, 1) := by decide +kernel
theorem dX2_highestLevel_6 : decode cX2_highestLevel 6 = .ok (.invokevirtual 98, 3) := by decide +kernel
theorem dX2_highestLevel_9 : decode cX2_highestLevel 9 = .ok (.if_icmp .ge 23, 3) := by decide +kernel
theorem dX2_highestLevel_12 : decode cX2_highestLevel 12 = .ok (.iload_n 1, 1) := by decide +kernel
theorem dX2_highestLevel_13 : decode cX2_highestLevel 13 = .ok (.aload_n 0, 1) := by decide +kernel
theorem dX2_highestLevel_14 : decode cX2_highestLevel 14 = .ok (.getfield 32, 3) := by decide +kernel
theorem dX2_highestLevel_17 : decode cX2_highestLevel 17 = .ok (.iload_n 2, 1) := by decide +kernel
theorem dX2_highestLevel_18 : decode cX2_highestLevel 18 = .ok (.aaload, 1) := by decide +kernel
theorem dX2_highestLevel_19 : decode cX2_highestLevel 19 = .ok (.getfield 134, 3) := by decide +kernel
theorem dX2_highestLevel_22 : decode cX2_highestLevel 22 = .ok (.invokestatic 183, 3) := by decide +kernel
theorem dX2_highestLevel_25 : decode cX2_highestLevel 25 = .ok (.istore_n 1, 1) := by decide +kernel
theorem dX2_highestLevel_26 : decode cX2_highestLevel 26 = .ok (.iinc 2 1, 3) := by decide +kernel
theorem dX2_highestLevel_29 : decode cX2_highestLevel 29 = .ok (.goto (-25), 3) := by decide +kernel
theorem dX2_highestLevel_32 : decode cX2_highestLevel 32 = .ok (.iload_n 1, 1) := by decide +kernel
theorem dX2_highestLevel_33 : decode cX2_highestLevel 33 = .ok (.ireturn, 1) := by decide +kernel
set_option maxRecDepth 20000 in
theorem ggX2_cost_X2_allWaited : GoodIn wsX2_cost wsX2_allWaited := goodIn_r _ [6, 7, 8, 9, 10, 11, 12, 13, 14, 15, 16, 17, 33, 34, 35, 36, 37, 38, 39, 40, 41, 42, 43, 44, 45, 46, 47] (by decide +kernel) (by decide +kernel)
set_option maxRecDepth 20000 in
theorem gX2_cost_X2_allWaited : GoodIn wsX2_cost (wsV RX2 195 RX2 yX2_allWaited wsX2_allWaited) := goodIn_app (goodIn_of _ (by decide +kernel)) ggX2_cost_X2_allWaited
set_option maxRecDepth 20000 in
theorem ggX2_cost_X2_cupsLeft : GoodIn wsX2_cost wsX2_cupsLeft := goodIn_r _ [21, 22, 23, 24, 25, 26, 5, 27, 1, 33, 34, 35, 36, 37, 38, 39, 40, 48, 49, 50, 51, 52] (by decide +kernel) (by decide +kernel)
set_option maxRecDepth 20000 in
theorem gX2_cost_X2_cupsLeft : GoodIn wsX2_cost (wsV RX2 198 RX2 yX2_cupsLeft wsX2_cupsLeft) := goodIn_app (goodIn_of _ (by decide +kernel)) ggX2_cost_X2_cupsLeft
set_option maxRecDepth 20000 in
theorem ggX2_cost_X2_comersWith : GoodIn wsX2_cost wsX2_comersWith := goodIn_r _ [31, 7, 8, 32, 33, 34, 35, 36, 37, 38, 39, 40, 41, 42, 43, 44, 45, 46, 47] (by decide +kernel) (by decide +kernel)
set_option maxRecDepth 20000 in
theorem gX2_cost_X2_comersWith : GoodIn wsX2_cost (wsV RX2 90 RX2 yX2_comersWith wsX2_comersWith) := goodIn_app (goodIn_of _ (by decide +kernel)) ggX2_cost_X2_comersWith
theorem dX2_cost_0 : decode cX2_cost 0 = .ok (.aload_n 0, 1) := by decide +kernel
theorem dX2_cost_1 : decode cX2_cost 1 = .ok (.invokevirtual 195, 3) := by decide +kernel
theorem dX2_cost_4 : decode cX2_cost 4 = .ok (.aload_n 0, 1) := by decide +kernel
theorem dX2_cost_5 : decode cX2_cost 5 = .ok (.getfield 18, 3) := by decide +kernel
theorem dX2_cost_8 : decode cX2_cost 8 = .ok (.iconst 4, 1) := by decide +kernel
theorem dX2_cost_9 : decode cX2_cost 9 = .ok (.iaload, 1) := by decide +kernel
theorem dX2_cost_10 : decode cX2_cost 10 = .ok (.imul, 1) := by decide +kernel
theorem dX2_cost_11 : decode cX2_cost 11 = .ok (.aload_n 0, 1) := by decide +kernel
theorem dX2_cost_12 : decode cX2_cost 12 = .ok (.invokevirtual 198, 3) := by decide +kernel
theorem dX2_cost_15 : decode cX2_cost 15 = .ok (.aload_n 0, 1) := by decide +kernel
theorem dX2_cost_16 : decode cX2_cost 16 = .ok (.getfield 18, 3) := by decide +kernel
theorem dX2_cost_19 : decode cX2_cost 19 = .ok (.iconst 5, 1) := by decide +kernel
theorem dX2_cost_20 : decode cX2_cost 20 = .ok (.iaload, 1) := by decide +kernel
theorem dX2_cost_21 : decode cX2_cost 21 = .ok (.imul, 1) := by decide +kernel
theorem dX2_cost_22 : decode cX2_cost 22 = .ok (.iadd, 1) := by decide +kernel
theorem dX2_cost_23 : decode cX2_cost 23 = .ok (.aload_n 0, 1) := by decide +kernel
theorem dX2_cost_24 : decode cX2_cost 24 = .ok (.iconst 3, 1) := by decide +kernel
theorem dX2_cost_25 : decode cX2_cost 25 = .ok (.invokevirtual 90, 3) := by decide +kernel
theorem dX2_cost_28 : decode cX2_cost 28 = .ok (.bipush 9, 2) := by decide +kernel
theorem dX2_cost_30 : decode cX2_cost 30 = .ok (.imul, 1) := by decide +kernel
theorem dX2_cost_31 : decode cX2_cost 31 = .ok (.iadd, 1) := by decide +kernel
theorem dX2_cost_32 : decode cX2_cost 32 = .ok (.ireturn, 1) := by decide +kernel
theorem dX3_init_0 : decode cX3_init 0 = .ok (.aload_n 0, 1) := by decide +kernel
theorem dX3_init_1 : decode cX3_init 1 = .ok (.invokespecial 3, 3) := by decide +kernel
theorem dX3_init_4 : decode cX3_init 4 = .ok (.return_, 1) := by decide +kernel
theorem dX3_copy_0 : decode cX3_copy 0 = .ok (.aload_n 0, 1) := by decide +kernel
theorem dX3_copy_1 : decode cX3_copy 1 = .ok (.aload_n 1, 1) := by decide +kernel
theorem dX3_copy_2 : decode cX3_copy 2 = .ok (.getfield 9, 3) := by decide +kernel
theorem dX3_copy_5 : decode cX3_copy 5 = .ok (.putfield 9, 3) := by decide +kernel
theorem dX3_copy_8 : decode cX3_copy 8 = .ok (.aload_n 0, 1) := by decide +kernel
theorem dX3_copy_9 : decode cX3_copy 9 = .ok (.aload_n 1, 1) := by decide +kernel
theorem dX3_copy_10 : decode cX3_copy 10 = .ok (.getfield 15, 3) := by decide +kernel
theorem dX3_copy_13 : decode cX3_copy 13 = .ok (.putfield 15, 3) := by decide +kernel
theorem dX3_copy_16 : decode cX3_copy 16 = .ok (.aload_n 0, 1) := by decide +kernel
theorem dX3_copy_17 : decode cX3_copy 17 = .ok (.aload_n 1, 1) := by decide +kernel
theorem dX3_copy_18 : decode cX3_copy 18 = .ok (.getfield 18, 3) := by decide +kernel
theorem dX3_copy_21 : decode cX3_copy 21 = .ok (.putfield 18, 3) := by decide +kernel
theorem dX3_copy_24 : decode cX3_copy 24 = .ok (.aload_n 0, 1) := by decide +kernel
theorem dX3_copy_25 : decode cX3_copy 25 = .ok (.aload_n 1, 1) := by decide +kernel
theorem dX3_copy_26 : decode cX3_copy 26 = .ok (.getfield 21, 3) := by decide +kernel
theorem dX3_copy_29 : decode cX3_copy 29 = .ok (.putfield 21, 3) := by decide +kernel
theorem dX3_copy_32 : decode cX3_copy 32 = .ok (.aload_n 0, 1) := by decide +kernel
theorem dX3_copy_33 : decode cX3_copy 33 = .ok (.aload_n 1, 1) := by decide +kernel
theorem dX3_copy_34 : decode cX3_copy 34 = .ok (.getfield 24, 3) := by decide +kernel
theorem dX3_copy_37 : decode cX3_copy 37 = .ok (.putfield 24, 3) := by decide +kernel
theorem dX3_copy_40 : decode cX3_copy 40 = .ok (.return_, 1) := by decide +kernel
theorem dX3_begin_0 : decode cX3_begin 0 = .ok (.aload_n 0, 1) := by decide +kernel
theorem dX3_begin_1 : decode cX3_begin 1 = .ok (.iconst 0, 1) := by decide +kernel
theorem dX3_begin_2 : decode cX3_begin 2 = .ok (.putfield 9, 3) := by decide +kernel
theorem dX3_begin_5 : decode cX3_begin 5 = .ok (.aload_n 0, 1) := by decide +kernel
theorem dX3_begin_6 : decode cX3_begin 6 = .ok (.iconst 0, 1) := by decide +kernel
theorem dX3_begin_7 : decode cX3_begin 7 = .ok (.putfield 15, 3) := by decide +kernel
theorem dX3_begin_10 : decode cX3_begin 10 = .ok (.aload_n 0, 1) := by decide +kernel
theorem dX3_begin_11 : decode cX3_begin 11 = .ok (.iconst 0, 1) := by decide +kernel
theorem dX3_begin_12 : decode cX3_begin 12 = .ok (.putfield 18, 3) := by decide +kernel
theorem dX3_begin_15 : decode cX3_begin 15 = .ok (.aload_n 0, 1) := by decide +kernel
theorem dX3_begin_16 : decode cX3_begin 16 = .ok (.iconst 0, 1) := by decide +kernel
theorem dX3_begin_17 : decode cX3_begin 17 = .ok (.putfield 21, 3) := by decide +kernel
theorem dX3_begin_20 : decode cX3_begin 20 = .ok (.return_, 1) := by decide +kernel
theorem dX3_isFree_0 : decode cX3_isFree 0 = .ok (.aload_n 0, 1) := by decide +kernel
theorem dX3_isFree_1 : decode cX3_isFree 1 = .ok (.getfield 21, 3) := by decide +kernel
theorem dX3_isFree_4 : decode cX3_isFree 4 = .ok (.iload_n 1, 1) := by decide +kernel
theorem dX3_isFree_5 : decode cX3_isFree 5 = .ok (.if_icmp .gt 7, 3) := by decide +kernel
theorem dX3_isFree_8 : decode cX3_isFree 8 = .ok (.iconst 1, 1) := by decide +kernel
theorem dX3_isFree_9 : decode cX3_isFree 9 = .ok (.goto 4, 3) := by decide +kernel
theorem dX3_isFree_12 : decode cX3_isFree 12 = .ok (.iconst 0, 1) := by decide +kernel
theorem dX3_isFree_13 : decode cX3_isFree 13 = .ok (.ireturn, 1) := by decide +kernel
theorem dX3_isReady_0 : decode cX3_isReady 0 = .ok (.aload_n 0, 1) := by decide +kernel
theorem dX3_isReady_1 : decode cX3_isReady 1 = .ok (.getfield 21, 3) := by decide +kernel
theorem dX3_isReady_4 : decode cX3_isReady 4 = .ok (.iload_n 1, 1) := by decide +kernel
theorem dX3_isReady_5 : decode cX3_isReady 5 = .ok (.if_icmp .gt 24, 3) := by decide +kernel
theorem dX3_isReady_8 : decode cX3_isReady 8 = .ok (.aload_n 0, 1) := by decide +kernel
theorem dX3_isReady_9 : decode cX3_isReady 9 = .ok (.getfield 15, 3) := by decide +kernel
theorem dX3_isReady_12 : decode cX3_isReady 12 = .ok (.bipush 8, 2) := by decide +kernel
theorem dX3_isReady_14 : decode cX3_isReady 14 = .ok (.if_icmp .lt 15, 3) := by decide +kernel
theorem dX3_isReady_17 : decode cX3_isReady 17 = .ok (.aload_n 0, 1) := by decide +kernel
theorem dX3_isReady_18 : decode cX3_isReady 18 = .ok (.getfield 9, 3) := by decide +kernel
theorem dX3_isReady_21 : decode cX3_isReady 21 = .ok (.iload_n 2, 1) := by decide +kernel
theorem dX3_isReady_22 : decode cX3_isReady 22 = .ok (.if_icmp .lt 7, 3) := by decide +kernel
theorem dX3_isReady_25 : decode cX3_isReady 25 = .ok (.iconst 1, 1) := by decide +kernel
theorem dX3_isReady_26 : decode cX3_isReady 26 = .ok (.goto 4, 3) := by decide +kernel
theorem dX3_isReady_29 : decode cX3_isReady 29 = .ok (.iconst 0, 1) := by decide +kernel
theorem dX3_isReady_30 : decode cX3_isReady 30 = .ok (.ireturn, 1) := by decide +kernel
theorem dX3_fill_0 : decode cX3_fill 0 = .ok (.iload_n 1, 1) := by decide +kernel
theorem dX3_fill_1 : decode cX3_fill 1 = .ok (.ifCond .le 23, 3) := by decide +kernel
theorem dX3_fill_4 : decode cX3_fill 4 = .ok (.aload_n 0, 1) := by decide +kernel
theorem dX3_fill_5 : decode cX3_fill 5 = .ok (.aload_n 0, 1) := by decide +kernel
theorem dX3_fill_6 : decode cX3_fill 6 = .ok (.getfield 9, 3) := by decide +kernel
theorem dX3_fill_9 : decode cX3_fill 9 = .ok (.aload_n 0, 1) := by decide +kernel
theorem dX3_fill_10 : decode cX3_fill 10 = .ok (.getfield 15, 3) := by decide +kernel
theorem dX3_fill_13 : decode cX3_fill 13 = .ok (.imul, 1) := by decide +kernel
theorem dX3_fill_14 : decode cX3_fill 14 = .ok (.iload_n 1, 1) := by decide +kernel
theorem dX3_fill_15 : decode cX3_fill 15 = .ok (.idiv, 1) := by decide +kernel
theorem dX3_fill_16 : decode cX3_fill 16 = .ok (.putfield 15, 3) := by decide +kernel
theorem dX3_fill_19 : decode cX3_fill 19 = .ok (.aload_n 0, 1) := by decide +kernel
theorem dX3_fill_20 : decode cX3_fill 20 = .ok (.iload_n 1, 1) := by decide +kernel
theorem dX3_fill_21 : decode cX3_fill 21 = .ok (.putfield 9, 3) := by decide +kernel
theorem dX3_fill_24 : decode cX3_fill 24 = .ok (.return_, 1) := by decide +kernel
set_option maxRecDepth 20000 in
theorem ggX3_putOn_X6_heatingMinutes : GoodIn wsX3_putOn wsX6_heatingMinutes := goodIn_r _ [8] (by decide +kernel) (by decide +kernel)
set_option maxRecDepth 20000 in
theorem gX3_putOn_X6_heatingMinutes_n27 : GoodIn wsX3_putOn (wsX6_heatingMinutes) := ggX3_putOn_X6_heatingMinutes
theorem dX3_putOn_0 : decode cX3_putOn 0 = .ok (.aload_n 0, 1) := by decide +kernel
theorem dX3_putOn_1 : decode cX3_putOn 1 = .ok (.iload_n 2, 1) := by decide +kernel
theorem dX3_putOn_2 : decode cX3_putOn 2 = .ok (.aload_n 0, 1) := by decide +kernel
theorem dX3_putOn_3 : decode cX3_putOn 3 = .ok (.getfield 9, 3) := by decide +kernel
theorem dX3_putOn_6 : decode cX3_putOn 6 = .ok (.bipush 10, 2) := by decide +kernel
theorem dX3_putOn_8 : decode cX3_putOn 8 = .ok (.aload_n 0, 1) := by decide +kernel
theorem dX3_putOn_9 : decode cX3_putOn 9 = .ok (.getfield 15, 3) := by decide +kernel
theorem dX3_putOn_12 : decode cX3_putOn 12 = .ok (.isub, 1) := by decide +kernel
theorem dX3_putOn_13 : decode cX3_putOn 13 = .ok (.iload_n 3, 1) := by decide +kernel
theorem dX3_putOn_14 : decode cX3_putOn 14 = .ok (.invokestatic 27, 3) := by decide +kernel
theorem dX3_putOn_17 : decode cX3_putOn 17 = .ok (.iadd, 1) := by decide +kernel
theorem dX3_putOn_18 : decode cX3_putOn 18 = .ok (.putfield 21, 3) := by decide +kernel
theorem dX3_putOn_21 : decode cX3_putOn 21 = .ok (.aload_n 0, 1) := by decide +kernel
theorem dX3_putOn_22 : decode cX3_putOn 22 = .ok (.bipush 10, 2) := by decide +kernel
theorem dX3_putOn_24 : decode cX3_putOn 24 = .ok (.putfield 15, 3) := by decide +kernel
theorem dX3_putOn_27 : decode cX3_putOn 27 = .ok (.aload_n 0, 1) := by decide +kernel
theorem dX3_putOn_28 : decode cX3_putOn 28 = .ok (.iconst 0, 1) := by decide +kernel
theorem dX3_putOn_29 : decode cX3_putOn 29 = .ok (.putfield 18, 3) := by decide +kernel
theorem dX3_putOn_32 : decode cX3_putOn 32 = .ok (.aload_n 0, 1) := by decide +kernel
theorem dX3_putOn_33 : decode cX3_putOn 33 = .ok (.iload_n 1, 1) := by decide +kernel
theorem dX3_putOn_34 : decode cX3_putOn 34 = .ok (.putfield 24, 3) := by decide +kernel
theorem dX3_putOn_37 : decode cX3_putOn 37 = .ok (.return_, 1) := by decide +kernel
theorem dX3_cool_0 : decode cX3_cool 0 = .ok (.aload_n 0, 1) := by decide +kernel
theorem dX3_cool_1 : decode cX3_cool 1 = .ok (.dup, 1) := by decide +kernel
theorem dX3_cool_2 : decode cX3_cool 2 = .ok (.getfield 18, 3) := by decide +kernel
theorem dX3_cool_5 : decode cX3_cool 5 = .ok (.iconst 1, 1) := by decide +kernel
theorem dX3_cool_6 : decode cX3_cool 6 = .ok (.iadd, 1) := by decide +kernel
theorem dX3_cool_7 : decode cX3_cool 7 = .ok (.putfield 18, 3) := by decide +kernel
theorem dX3_cool_10 : decode cX3_cool 10 = .ok (.aload_n 0, 1) := by decide +kernel
theorem dX3_cool_11 : decode cX3_cool 11 = .ok (.getfield 18, 3) := by decide +kernel
theorem dX3_cool_14 : decode cX3_cool 14 = .ok (.iload_n 1, 1) := by decide +kernel
theorem dX3_cool_15 : decode cX3_cool 15 = .ok (.if_icmp .lt 22, 3) := by decide +kernel
theorem dX3_cool_18 : decode cX3_cool 18 = .ok (.aload_n 0, 1) := by decide +kernel
theorem dX3_cool_19 : decode cX3_cool 19 = .ok (.iconst 0, 1) := by decide +kernel
theorem dX3_cool_20 : decode cX3_cool 20 = .ok (.aload_n 0, 1) := by decide +kernel
theorem dX3_cool_21 : decode cX3_cool 21 = .ok (.getfield 15, 3) := by decide +kernel
theorem dX3_cool_24 : decode cX3_cool 24 = .ok (.iconst 1, 1) := by decide +kernel
theorem dX3_cool_25 : decode cX3_cool 25 = .ok (.isub, 1) := by decide +kernel
theorem dX3_cool_26 : decode cX3_cool 26 = .ok (.invokestatic 31, 3) := by decide +kernel
theorem dX3_cool_29 : decode cX3_cool 29 = .ok (.putfield 15, 3) := by decide +kernel
theorem dX3_cool_32 : decode cX3_cool 32 = .ok (.aload_n 0, 1) := by decide +kernel
theorem dX3_cool_33 : decode cX3_cool 33 = .ok (.iconst 0, 1) := by decide +kernel
theorem dX3_cool_34 : decode cX3_cool 34 = .ok (.putfield 18, 3) := by decide +kernel
theorem dX3_cool_37 : decode cX3_cool 37 = .ok (.return_, 1) := by decide +kernel
theorem dX3_tell_0 : decode cX3_tell 0 = .ok (.iload_n 1, 1) := by decide +kernel
theorem dX3_tell_1 : decode cX3_tell 1 = .ok (.tableswitch 42 0 2 #[27, 32, 37], 27) := by decide +kernel
theorem dX3_tell_28 : decode cX3_tell 28 = .ok (.aload_n 0, 1) := by decide +kernel
theorem dX3_tell_29 : decode cX3_tell 29 = .ok (.getfield 9, 3) := by decide +kernel
theorem dX3_tell_32 : decode cX3_tell 32 = .ok (.ireturn, 1) := by decide +kernel
theorem dX3_tell_33 : decode cX3_tell 33 = .ok (.aload_n 0, 1) := by decide +kernel
theorem dX3_tell_34 : decode cX3_tell 34 = .ok (.getfield 15, 3) := by decide +kernel
theorem dX3_tell_37 : decode cX3_tell 37 = .ok (.ireturn, 1) := by decide +kernel
theorem dX3_tell_38 : decode cX3_tell 38 = .ok (.aload_n 0, 1) := by decide +kernel
theorem dX3_tell_39 : decode cX3_tell 39 = .ok (.getfield 18, 3) := by decide +kernel
theorem dX3_tell_42 : decode cX3_tell 42 = .ok (.ireturn, 1) := by decide +kernel
theorem dX3_tell_43 : decode cX3_tell 43 = .ok (.iconst 0, 1) := by decide +kernel
theorem dX3_tell_44 : decode cX3_tell 44 = .ok (.aload_n 0, 1) := by decide +kernel
theorem dX3_tell_45 : decode cX3_tell 45 = .ok (.getfield 21, 3) := by decide +kernel
theorem dX3_tell_48 : decode cX3_tell 48 = .ok (.iload_n 2, 1) := by decide +kernel
theorem dX3_tell_49 : decode cX3_tell 49 = .ok (.isub, 1) := by decide +kernel
theorem dX3_tell_50 : decode cX3_tell 50 = .ok (.invokestatic 31, 3) := by decide +kernel
theorem dX3_tell_53 : decode cX3_tell 53 = .ok (.ireturn, 1) := by decide +kernel
theorem dX4_init_0 : decode cX4_init 0 = .ok (.aload_n 0, 1) := by decide +kernel
theorem dX4_init_1 : decode cX4_init 1 = .ok (.invokespecial 3, 3) := by decide +kernel
theorem dX4_init_4 : decode cX4_init 4 = .ok (.aload_n 0, 1) := by decide +kernel
theorem dX4_init_5 : decode cX4_init 5 = .ok (.bipush 96, 2) := by decide +kernel
theorem dX4_init_7 : decode cX4_init 7 = .ok (.newarray .int, 2) := by decide +kernel
theorem dX4_init_9 : decode cX4_init 9 = .ok (.putfield 9, 3) := by decide +kernel
theorem dX4_init_12 : decode cX4_init 12 = .ok (.return_, 1) := by decide +kernel
theorem dX4_append_0 : decode cX4_append 0 = .ok (.aload_n 0, 1) := by decide +kernel
theorem dX4_append_1 : decode cX4_append 1 = .ok (.getfield 15, 3) := by decide +kernel
theorem dX4_append_4 : decode cX4_append 4 = .ok (.aload_n 0, 1) := by decide +kernel
theorem dX4_append_5 : decode cX4_append 5 = .ok (.getfield 9, 3) := by decide +kernel
theorem dX4_append_8 : decode cX4_append 8 = .ok (.arraylength, 1) := by decide +kernel
theorem dX4_append_9 : decode cX4_append 9 = .ok (.if_icmp .ge 23, 3) := by decide +kernel
theorem dX4_append_12 : decode cX4_append 12 = .ok (.aload_n 0, 1) := by decide +kernel
theorem dX4_append_13 : decode cX4_append 13 = .ok (.getfield 9, 3) := by decide +kernel
theorem dX4_append_16 : decode cX4_append 16 = .ok (.aload_n 0, 1) := by decide +kernel
theorem dX4_append_17 : decode cX4_append 17 = .ok (.getfield 15, 3) := by decide +kernel
theorem dX4_append_20 : decode cX4_append 20 = .ok (.iload_n 1, 1) := by decide +kernel
theorem dX4_append_21 : decode cX4_append 21 = .ok (.iastore, 1) := by decide +kernel
theorem dX4_append_22 : decode cX4_append 22 = .ok (.aload_n 0, 1) := by decide +kernel
theorem dX4_append_23 : decode cX4_append 23 = .ok (.dup, 1) := by decide +kernel
theorem dX4_append_24 : decode cX4_append 24 = .ok (.getfield 15, 3) := by decide +kernel
theorem dX4_append_27 : decode cX4_append 27 = .ok (.iconst 1, 1) := by decide +kernel
theorem dX4_append_28 : decode cX4_append 28 = .ok (.iadd, 1) := by decide +kernel
theorem dX4_append_29 : decode cX4_append 29 = .ok (.putfield 15, 3) := by decide +kernel
theorem dX4_append_32 : decode cX4_append 32 = .ok (.aload_n 0, 1) := by decide +kernel
theorem dX4_append_33 : decode cX4_append 33 = .ok (.getfield 15, 3) := by decide +kernel
theorem dX4_append_36 : decode cX4_append 36 = .ok (.ireturn, 1) := by decide +kernel
set_option maxRecDepth 20000 in
theorem ggX4_read_X4_skipStatement : GoodIn wsX4_read wsX4_skipStatement := goodIn_r _ [7, 8, 9, 10, 6, 11, 1, 12, 13, 14, 15, 2, 16, 17, 18, 19, 20, 77, 78, 79] (by decide +kernel) (by decide +kernel)
set_option maxRecDepth 20000 in
theorem gX4_read_X4_skipStatement : GoodIn wsX4_read (wsV RX4 22 RX4 yX4_skipStatement wsX4_skipStatement) := goodIn_app (goodIn_of _ (by decide +kernel)) ggX4_read_X4_skipStatement
set_option maxRecDepth 20000 in
theorem ggX4_read_X4_carryOut : GoodIn wsX4_read wsX4_carryOut := goodIn_r _ [24, 1, 25, 12, 13, 14, 6, 15, 2, 16, 26, 27, 28, 29, 30, 31, 32, 33, 34, 35, 36, 37, 38, 39, 40, 41, 42, 43, 44, 45, 46, 47, 48, 49, 50, 51, 52, 53, 54, 55, 56, 57, 58, 59, 60, 61, 62, 63, 64, 65, 66, 67, 68, 69, 70, 71, 72, 73, 74, 75, 76, 77, 78, 79, 80, 81, 82, 83, 84, 85, 86, 87, 88, 89, 90, 91, 92, 93, 94, 95, 96, 97, 98, 99] (by decide +kernel) (by decide +kernel)
set_option maxRecDepth 20000 in
theorem gX4_read_X4_carryOut : GoodIn wsX4_read (wsV RX4 26 RX4 yX4_carryOut wsX4_carryOut) := goodIn_app (goodIn_of _ (by decide +kernel)) ggX4_read_X4_carryOut
theorem dX4_read_0 : decode cX4_read 0 = .ok (.aload_n 0, 1) := by decide +kernel
theorem dX4_read_1 : decode cX4_read 1 = .ok (.iconst 0, 1) := by decide +kernel
theorem dX4_read_2 : decode cX4_read 2 = .ok (.putfield 19, 3) := by decide +kernel
theorem dX4_read_5 : decode cX4_read 5 = .ok (.iconst 0, 1) := by decide +kernel
theorem dX4_read_6 : decode cX4_read 6 = .ok (.istore_n 2, 1) := by decide +kernel
theorem dX4_read_7 : decode cX4_read 7 = .ok (.iload_n 2, 1) := by decide +kernel
theorem dX4_read_8 : decode cX4_read 8 = .ok (.bipush 96, 2) := by decide +kernel
theorem dX4_read_10 : decode cX4_read 10 = .ok (.if_icmp .ge 40, 3) := by decide +kernel
theorem dX4_read_13 : decode cX4_read 13 = .ok (.iload_n 2, 1) := by decide +kernel
theorem dX4_read_14 : decode cX4_read 14 = .ok (.ifCond .eq 14, 3) := by decide +kernel
theorem dX4_read_17 : decode cX4_read 17 = .ok (.aload_n 0, 1) := by decide +kernel
theorem dX4_read_18 : decode cX4_read 18 = .ok (.getfield 19, 3) := by decide +kernel
theorem dX4_read_21 : decode cX4_read 21 = .ok (.aload_n 0, 1) := by decide +kernel
theorem dX4_read_22 : decode cX4_read 22 = .ok (.getfield 15, 3) := by decide +kernel
theorem dX4_read_25 : decode cX4_read 25 = .ok (.if_icmp .ge 25, 3) := by decide +kernel
end
section
theorem dX4_read_28 : decode cX4_read 28 = .ok (.aload_n 0, 1) := by decide +kernel
theorem dX4_read_29 : decode cX4_read 29 = .ok (.invokevirtual 22, 3) := by decide +kernel
theorem dX4_read_32 : decode cX4_read 32 = .ok (.ifCond .ne 12, 3) := by decide +kernel
theorem dX4_read_35 : decode cX4_read 35 = .ok (.sipush (-1000), 3) := by decide +kernel
theorem dX4_read_38 : decode cX4_read 38 = .ok (.aload_n 0, 1) := by decide +kernel
theorem dX4_read_39 : decode cX4_read 39 = .ok (.getfield 19, 3) := by decide +kernel
theorem dX4_read_42 : decode cX4_read 42 = .ok (.isub, 1) := by decide +kernel
theorem dX4_read_43 : decode cX4_read 43 = .ok (.ireturn, 1) := by decide +kernel
theorem dX4_read_44 : decode cX4_read 44 = .ok (.iinc 2 1, 3) := by decide +kernel
theorem dX4_read_47 : decode cX4_read 47 = .ok (.goto (-40), 3) := by decide +kernel
theorem dX4_read_50 : decode cX4_read 50 = .ok (.aload_n 0, 1) := by decide +kernel
theorem dX4_read_51 : decode cX4_read 51 = .ok (.iconst 0, 1) := by decide +kernel
theorem dX4_read_52 : decode cX4_read 52 = .ok (.putfield 19, 3) := by decide +kernel
theorem dX4_read_55 : decode cX4_read 55 = .ok (.iconst 0, 1) := by decide +kernel
theorem dX4_read_56 : decode cX4_read 56 = .ok (.istore_n 2, 1) := by decide +kernel
theorem dX4_read_57 : decode cX4_read 57 = .ok (.aload_n 0, 1) := by decide +kernel
theorem dX4_read_58 : decode cX4_read 58 = .ok (.getfield 19, 3) := by decide +kernel
theorem dX4_read_61 : decode cX4_read 61 = .ok (.aload_n 0, 1) := by decide +kernel
theorem dX4_read_62 : decode cX4_read 62 = .ok (.getfield 15, 3) := by decide +kernel
theorem dX4_read_65 : decode cX4_read 65 = .ok (.if_icmp .ge 42, 3) := by decide +kernel
theorem dX4_read_68 : decode cX4_read 68 = .ok (.iload_n 2, 1) := by decide +kernel
theorem dX4_read_69 : decode cX4_read 69 = .ok (.bipush 96, 2) := by decide +kernel
theorem dX4_read_71 : decode cX4_read 71 = .ok (.if_icmp .ge 36, 3) := by decide +kernel
theorem dX4_read_74 : decode cX4_read 74 = .ok (.aload_n 0, 1) := by decide +kernel
theorem dX4_read_75 : decode cX4_read 75 = .ok (.getfield 19, 3) := by decide +kernel
theorem dX4_read_78 : decode cX4_read 78 = .ok (.istore_n 3, 1) := by decide +kernel
theorem dX4_read_79 : decode cX4_read 79 = .ok (.aload_n 0, 1) := by decide +kernel
theorem dX4_read_80 : decode cX4_read 80 = .ok (.invokevirtual 22, 3) := by decide +kernel
theorem dX4_read_83 : decode cX4_read 83 = .ok (.ifCond .eq 12, 3) := by decide +kernel
theorem dX4_read_86 : decode cX4_read 86 = .ok (.aload_n 0, 1) := by decide +kernel
theorem dX4_read_87 : decode cX4_read 87 = .ok (.aload_n 1, 1) := by decide +kernel
theorem dX4_read_88 : decode cX4_read 88 = .ok (.iload_n 3, 1) := by decide +kernel
theorem dX4_read_89 : decode cX4_read 89 = .ok (.invokevirtual 26, 3) := by decide +kernel
theorem dX4_read_92 : decode cX4_read 92 = .ok (.ifCond .ne 9, 3) := by decide +kernel
theorem dX4_read_95 : decode cX4_read 95 = .ok (.sipush (-2000), 3) := by decide +kernel
theorem dX4_read_98 : decode cX4_read 98 = .ok (.iload_n 3, 1) := by decide +kernel
theorem dX4_read_99 : decode cX4_read 99 = .ok (.isub, 1) := by decide +kernel
theorem dX4_read_100 : decode cX4_read 100 = .ok (.ireturn, 1) := by decide +kernel
theorem dX4_read_101 : decode cX4_read 101 = .ok (.iinc 2 1, 3) := by decide +kernel
theorem dX4_read_104 : decode cX4_read 104 = .ok (.goto (-47), 3) := by decide +kernel
theorem dX4_read_107 : decode cX4_read 107 = .ok (.iload_n 2, 1) := by decide +kernel
theorem dX4_read_108 : decode cX4_read 108 = .ok (.ireturn, 1) := by decide +kernel
set_option maxRecDepth 20000 in
theorem ggX4_skipStatement_X4_skip : GoodIn wsX4_skipStatement wsX4_skip := goodIn_r _ [5, 6, 7, 8, 9, 4, 10, 11, 12, 17, 18, 19] (by decide +kernel) (by decide +kernel)
set_option maxRecDepth 20000 in
theorem gX4_skipStatement_X4_skip : GoodIn wsX4_skipStatement (wsV RX4 30 RX4 yX4_skip wsX4_skip) := goodIn_app (goodIn_of _ (by decide +kernel)) ggX4_skipStatement_X4_skip
set_option maxRecDepth 20000 in
theorem ggX4_skipStatement_X4_skipDigits : GoodIn wsX4_skipStatement wsX4_skipDigits := goodIn_r _ [16, 6, 7, 8, 9, 4, 10, 11, 12, 17, 18, 19] (by decide +kernel) (by decide +kernel)
set_option maxRecDepth 20000 in
theorem gX4_skipStatement_X4_skipDigits : GoodIn wsX4_skipStatement (wsV RX4 34 RX4 yX4_skipDigits wsX4_skipDigits) := goodIn_app (goodIn_of _ (by decide +kernel)) ggX4_skipStatement_X4_skipDigits
theorem dX4_skipStatement_0 : decode cX4_skipStatement 0 = .ok (.aload_n 0, 1) := by decide +kernel
theorem dX4_skipStatement_1 : decode cX4_skipStatement 1 = .ok (.bipush 115, 2) := by decide +kernel
theorem dX4_skipStatement_3 : decode cX4_skipStatement 3 = .ok (.invokevirtual 30, 3) := by decide +kernel
theorem dX4_skipStatement_6 : decode cX4_skipStatement 6 = .ok (.ifCond .eq 60, 3) := by decide +kernel
theorem dX4_skipStatement_9 : decode cX4_skipStatement 9 = .ok (.aload_n 0, 1) := by decide +kernel
theorem dX4_skipStatement_10 : decode cX4_skipStatement 10 = .ok (.iconst 1, 1) := by decide +kernel
theorem dX4_skipStatement_11 : decode cX4_skipStatement 11 = .ok (.invokevirtual 34, 3) := by decide +kernel
theorem dX4_skipStatement_14 : decode cX4_skipStatement 14 = .ok (.ifCond .eq 50, 3) := by decide +kernel
theorem dX4_skipStatement_17 : decode cX4_skipStatement 17 = .ok (.aload_n 0, 1) := by decide +kernel
theorem dX4_skipStatement_18 : decode cX4_skipStatement 18 = .ok (.bipush 61, 2) := by decide +kernel
theorem dX4_skipStatement_20 : decode cX4_skipStatement 20 = .ok (.invokevirtual 30, 3) := by decide +kernel
theorem dX4_skipStatement_23 : decode cX4_skipStatement 23 = .ok (.ifCond .eq 41, 3) := by decide +kernel
theorem dX4_skipStatement_26 : decode cX4_skipStatement 26 = .ok (.aload_n 0, 1) := by decide +kernel
theorem dX4_skipStatement_27 : decode cX4_skipStatement 27 = .ok (.iconst 1, 1) := by decide +kernel
theorem dX4_skipStatement_28 : decode cX4_skipStatement 28 = .ok (.invokevirtual 34, 3) := by decide +kernel
theorem dX4_skipStatement_31 : decode cX4_skipStatement 31 = .ok (.ifCond .eq 33, 3) := by decide +kernel
theorem dX4_skipStatement_34 : decode cX4_skipStatement 34 = .ok (.aload_n 0, 1) := by decide +kernel
theorem dX4_skipStatement_35 : decode cX4_skipStatement 35 = .ok (.bipush 59, 2) := by decide +kernel
theorem dX4_skipStatement_37 : decode cX4_skipStatement 37 = .ok (.invokevirtual 30, 3) := by decide +kernel
theorem dX4_skipStatement_40 : decode cX4_skipStatement 40 = .ok (.ifCond .ne 20, 3) := by decide +kernel
theorem dX4_skipStatement_43 : decode cX4_skipStatement 43 = .ok (.aload_n 0, 1) := by decide +kernel
theorem dX4_skipStatement_44 : decode cX4_skipStatement 44 = .ok (.iconst 1, 1) := by decide +kernel
theorem dX4_skipStatement_45 : decode cX4_skipStatement 45 = .ok (.invokevirtual 34, 3) := by decide +kernel
theorem dX4_skipStatement_48 : decode cX4_skipStatement 48 = .ok (.ifCond .eq 16, 3) := by decide +kernel
theorem dX4_skipStatement_51 : decode cX4_skipStatement 51 = .ok (.aload_n 0, 1) := by decide +kernel
theorem dX4_skipStatement_52 : decode cX4_skipStatement 52 = .ok (.bipush 59, 2) := by decide +kernel
theorem dX4_skipStatement_54 : decode cX4_skipStatement 54 = .ok (.invokevirtual 30, 3) := by decide +kernel
theorem dX4_skipStatement_57 : decode cX4_skipStatement 57 = .ok (.ifCond .eq 7, 3) := by decide +kernel
theorem dX4_skipStatement_60 : decode cX4_skipStatement 60 = .ok (.iconst 1, 1) := by decide +kernel
theorem dX4_skipStatement_61 : decode cX4_skipStatement 61 = .ok (.goto 4, 3) := by decide +kernel
theorem dX4_skipStatement_64 : decode cX4_skipStatement 64 = .ok (.iconst 0, 1) := by decide +kernel
theorem dX4_skipStatement_65 : decode cX4_skipStatement 65 = .ok (.ireturn, 1) := by decide +kernel
theorem dX4_skipStatement_66 : decode cX4_skipStatement 66 = .ok (.aload_n 0, 1) := by decide +kernel
theorem dX4_skipStatement_67 : decode cX4_skipStatement 67 = .ok (.bipush 99, 2) := by decide +kernel
theorem dX4_skipStatement_69 : decode cX4_skipStatement 69 = .ok (.invokevirtual 30, 3) := by decide +kernel
theorem dX4_skipStatement_72 : decode cX4_skipStatement 72 = .ok (.ifCond .eq 27, 3) := by decide +kernel
theorem dX4_skipStatement_75 : decode cX4_skipStatement 75 = .ok (.aload_n 0, 1) := by decide +kernel
theorem dX4_skipStatement_76 : decode cX4_skipStatement 76 = .ok (.bipush 8, 2) := by decide +kernel
theorem dX4_skipStatement_78 : decode cX4_skipStatement 78 = .ok (.invokevirtual 34, 3) := by decide +kernel
theorem dX4_skipStatement_81 : decode cX4_skipStatement 81 = .ok (.ifCond .eq 16, 3) := by decide +kernel
theorem dX4_skipStatement_84 : decode cX4_skipStatement 84 = .ok (.aload_n 0, 1) := by decide +kernel
theorem dX4_skipStatement_85 : decode cX4_skipStatement 85 = .ok (.bipush 59, 2) := by decide +kernel
theorem dX4_skipStatement_87 : decode cX4_skipStatement 87 = .ok (.invokevirtual 30, 3) := by decide +kernel
theorem dX4_skipStatement_90 : decode cX4_skipStatement 90 = .ok (.ifCond .eq 7, 3) := by decide +kernel
theorem dX4_skipStatement_93 : decode cX4_skipStatement 93 = .ok (.iconst 1, 1) := by decide +kernel
theorem dX4_skipStatement_94 : decode cX4_skipStatement 94 = .ok (.goto 4, 3) := by decide +kernel
theorem dX4_skipStatement_97 : decode cX4_skipStatement 97 = .ok (.iconst 0, 1) := by decide +kernel
theorem dX4_skipStatement_98 : decode cX4_skipStatement 98 = .ok (.ireturn, 1) := by decide +kernel
theorem dX4_skipStatement_99 : decode cX4_skipStatement 99 = .ok (.aload_n 0, 1) := by decide +kernel
theorem dX4_skipStatement_100 : decode cX4_skipStatement 100 = .ok (.bipush 107, 2) := by decide +kernel
theorem dX4_skipStatement_102 : decode cX4_skipStatement 102 = .ok (.invokevirtual 30, 3) := by decide +kernel
theorem dX4_skipStatement_105 : decode cX4_skipStatement 105 = .ok (.ifCond .eq 24, 3) := by decide +kernel
theorem dX4_skipStatement_108 : decode cX4_skipStatement 108 = .ok (.aload_n 0, 1) := by decide +kernel
theorem dX4_skipStatement_109 : decode cX4_skipStatement 109 = .ok (.iconst 3, 1) := by decide +kernel
theorem dX4_skipStatement_110 : decode cX4_skipStatement 110 = .ok (.invokevirtual 34, 3) := by decide +kernel
theorem dX4_skipStatement_113 : decode cX4_skipStatement 113 = .ok (.ifCond .eq 16, 3) := by decide +kernel
theorem dX4_skipStatement_116 : decode cX4_skipStatement 116 = .ok (.aload_n 0, 1) := by decide +kernel
theorem dX4_skipStatement_117 : decode cX4_skipStatement 117 = .ok (.bipush 59, 2) := by decide +kernel
theorem dX4_skipStatement_119 : decode cX4_skipStatement 119 = .ok (.invokevirtual 30, 3) := by decide +kernel
theorem dX4_skipStatement_122 : decode cX4_skipStatement 122 = .ok (.ifCond .eq 7, 3) := by decide +kernel
theorem dX4_skipStatement_125 : decode cX4_skipStatement 125 = .ok (.iconst 1, 1) := by decide +kernel
theorem dX4_skipStatement_126 : decode cX4_skipStatement 126 = .ok (.goto 4, 3) := by decide +kernel
theorem dX4_skipStatement_129 : decode cX4_skipStatement 129 = .ok (.iconst 0, 1) := by decide +kernel
theorem dX4_skipStatement_130 : decode cX4_skipStatement 130 = .ok (.ireturn, 1) := by decide +kernel
set_option maxRecDepth 20000 in
theorem ggX4_skip_X4_letterAt : GoodIn wsX4_skip wsX4_letterAt := goodIn_r _ [6, 7, 8, 9, 10, 11] (by decide +kernel) (by decide +kernel)
set_option maxRecDepth 20000 in
theorem gX4_skip_X4_letterAt : GoodIn wsX4_skip (wsV RX4 38 RX4 yX4_letterAt wsX4_letterAt) := goodIn_app (goodIn_of _ (by decide +kernel)) ggX4_skip_X4_letterAt
theorem dX4_skip_0 : decode cX4_skip 0 = .ok (.aload_n 0, 1) := by decide +kernel
theorem dX4_skip_1 : decode cX4_skip 1 = .ok (.aload_n 0, 1) := by decide +kernel
theorem dX4_skip_2 : decode cX4_skip 2 = .ok (.getfield 19, 3) := by decide +kernel
theorem dX4_skip_5 : decode cX4_skip 5 = .ok (.invokevirtual 38, 3) := by decide +kernel
theorem dX4_skip_8 : decode cX4_skip 8 = .ok (.iload_n 1, 1) := by decide +kernel
theorem dX4_skip_9 : decode cX4_skip 9 = .ok (.if_icmp .ne 7, 3) := by decide +kernel
theorem dX4_skip_12 : decode cX4_skip 12 = .ok (.iconst 1, 1) := by decide +kernel
theorem dX4_skip_13 : decode cX4_skip 13 = .ok (.goto 4, 3) := by decide +kernel
theorem dX4_skip_16 : decode cX4_skip 16 = .ok (.iconst 0, 1) := by decide +kernel
theorem dX4_skip_17 : decode cX4_skip 17 = .ok (.istore_n 2, 1) := by decide +kernel
theorem dX4_skip_18 : decode cX4_skip 18 = .ok (.aload_n 0, 1) := by decide +kernel
theorem dX4_skip_19 : decode cX4_skip 19 = .ok (.dup, 1) := by decide +kernel
theorem dX4_skip_20 : decode cX4_skip 20 = .ok (.getfield 19, 3) := by decide +kernel
theorem dX4_skip_23 : decode cX4_skip 23 = .ok (.iload_n 2, 1) := by decide +kernel
theorem dX4_skip_24 : decode cX4_skip 24 = .ok (.ifCond .eq 7, 3) := by decide +kernel
theorem dX4_skip_27 : decode cX4_skip 27 = .ok (.iconst 1, 1) := by decide +kernel
theorem dX4_skip_28 : decode cX4_skip 28 = .ok (.goto 4, 3) := by decide +kernel
theorem dX4_skip_31 : decode cX4_skip 31 = .ok (.iconst 0, 1) := by decide +kernel
theorem dX4_skip_32 : decode cX4_skip 32 = .ok (.iadd, 1) := by decide +kernel
theorem dX4_skip_33 : decode cX4_skip 33 = .ok (.putfield 19, 3) := by decide +kernel
theorem dX4_skip_36 : decode cX4_skip 36 = .ok (.iload_n 2, 1) := by decide +kernel
theorem dX4_skip_37 : decode cX4_skip 37 = .ok (.ireturn, 1) := by decide +kernel
set_option maxRecDepth 20000 in
theorem ggX4_skipDigits_X4_letterAt : GoodIn wsX4_skipDigits wsX4_letterAt := goodIn_r _ [6, 7, 8, 9, 10, 11] (by decide +kernel) (by decide +kernel)
set_option maxRecDepth 20000 in
theorem gX4_skipDigits_X4_letterAt : GoodIn wsX4_skipDigits (wsV RX4 38 RX4 yX4_letterAt wsX4_letterAt) := goodIn_app (goodIn_of _ (by decide +kernel)) ggX4_skipDigits_X4_letterAt
theorem dX4_skipDigits_0 : decode cX4_skipDigits 0 = .ok (.iconst 0, 1) := by decide +kernel
theorem dX4_skipDigits_1 : decode cX4_skipDigits 1 = .ok (.istore_n 2, 1) := by decide +kernel
theorem dX4_skipDigits_2 : decode cX4_skipDigits 2 = .ok (.iload_n 2, 1) := by decide +kernel
theorem dX4_skipDigits_3 : decode cX4_skipDigits 3 = .ok (.iload_n 1, 1) := by decide +kernel
theorem dX4_skipDigits_4 : decode cX4_skipDigits 4 = .ok (.if_icmp .ge 47, 3) := by decide +kernel
theorem dX4_skipDigits_7 : decode cX4_skipDigits 7 = .ok (.aload_n 0, 1) := by decide +kernel
theorem dX4_skipDigits_8 : decode cX4_skipDigits 8 = .ok (.aload_n 0, 1) := by decide +kernel
theorem dX4_skipDigits_9 : decode cX4_skipDigits 9 = .ok (.getfield 19, 3) := by decide +kernel
theorem dX4_skipDigits_12 : decode cX4_skipDigits 12 = .ok (.invokevirtual 38, 3) := by decide +kernel
theorem dX4_skipDigits_15 : decode cX4_skipDigits 15 = .ok (.bipush 48, 2) := by decide +kernel
theorem dX4_skipDigits_17 : decode cX4_skipDigits 17 = .ok (.if_icmp .lt 16, 3) := by decide +kernel
theorem dX4_skipDigits_20 : decode cX4_skipDigits 20 = .ok (.aload_n 0, 1) := by decide +kernel
theorem dX4_skipDigits_21 : decode cX4_skipDigits 21 = .ok (.aload_n 0, 1) := by decide +kernel
theorem dX4_skipDigits_22 : decode cX4_skipDigits 22 = .ok (.getfield 19, 3) := by decide +kernel
theorem dX4_skipDigits_25 : decode cX4_skipDigits 25 = .ok (.invokevirtual 38, 3) := by decide +kernel
theorem dX4_skipDigits_28 : decode cX4_skipDigits 28 = .ok (.bipush 57, 2) := by decide +kernel
theorem dX4_skipDigits_30 : decode cX4_skipDigits 30 = .ok (.if_icmp .le 5, 3) := by decide +kernel
theorem dX4_skipDigits_33 : decode cX4_skipDigits 33 = .ok (.iconst 0, 1) := by decide +kernel
theorem dX4_skipDigits_34 : decode cX4_skipDigits 34 = .ok (.ireturn, 1) := by decide +kernel
theorem dX4_skipDigits_35 : decode cX4_skipDigits 35 = .ok (.aload_n 0, 1) := by decide +kernel
theorem dX4_skipDigits_36 : decode cX4_skipDigits 36 = .ok (.dup, 1) := by decide +kernel
theorem dX4_skipDigits_37 : decode cX4_skipDigits 37 = .ok (.getfield 19, 3) := by decide +kernel
theorem dX4_skipDigits_40 : decode cX4_skipDigits 40 = .ok (.iconst 1, 1) := by decide +kernel
theorem dX4_skipDigits_41 : decode cX4_skipDigits 41 = .ok (.iadd, 1) := by decide +kernel
theorem dX4_skipDigits_42 : decode cX4_skipDigits 42 = .ok (.putfield 19, 3) := by decide +kernel
theorem dX4_skipDigits_45 : decode cX4_skipDigits 45 = .ok (.iinc 2 1, 3) := by decide +kernel
theorem dX4_skipDigits_48 : decode cX4_skipDigits 48 = .ok (.goto (-46), 3) := by decide +kernel
theorem dX4_skipDigits_51 : decode cX4_skipDigits 51 = .ok (.iconst 1, 1) := by decide +kernel
theorem dX4_skipDigits_52 : decode cX4_skipDigits 52 = .ok (.ireturn, 1) := by decide +kernel
set_option maxRecDepth 20000 in
theorem ggX4_carryOut_X4_letterAt : GoodIn wsX4_carryOut wsX4_letterAt := goodIn_r _ [7, 8, 9, 61, 62, 63] (by decide +kernel) (by decide +kernel)
set_option maxRecDepth 20000 in
theorem gX4_carryOut_X4_letterAt : GoodIn wsX4_carryOut (wsV RX4 38 RX4 yX4_letterAt wsX4_letterAt) := goodIn_app (goodIn_of _ (by decide +kernel)) ggX4_carryOut_X4_letterAt
set_option maxRecDepth 20000 in
theorem ggX4_carryOut_X4_number : GoodIn wsX4_carryOut wsX4_number := goodIn_r _ [13, 3, 4, 5, 6, 7, 8, 9, 61, 62, 63] (by decide +kernel) (by decide +kernel)
set_option maxRecDepth 20000 in
theorem gX4_carryOut_X4_number : GoodIn wsX4_carryOut (wsV RX4 42 RX4 yX4_number wsX4_number) := goodIn_app (goodIn_of _ (by decide +kernel)) ggX4_carryOut_X4_number
set_option maxRecDepth 20000 in
theorem ggX4_carryOut_X2_settingRefusal : GoodIn wsX4_carryOut wsX2_settingRefusal := goodIn_r _ [18, 19, 20, 21, 22, 23, 17, 24, 25, 26, 27, 28, 29, 30, 31, 32, 33, 34, 64, 65, 66, 67, 68, 69, 70, 71, 72, 73, 74, 75, 76] (by decide +kernel) (by decide +kernel)
set_option maxRecDepth 20000 in
theorem gX4_carryOut_X2_settingRefusal : GoodIn wsX4_carryOut (wsV RX4 46 RX2 yX2_settingRefusal wsX2_settingRefusal) := goodIn_app (goodIn_of _ (by decide +kernel)) ggX4_carryOut_X2_settingRefusal
set_option maxRecDepth 20000 in
theorem ggX4_carryOut_X2_change : GoodIn wsX4_carryOut wsX2_change := goodIn_r _ [38, 19, 64, 65, 66, 67, 68, 69, 70, 71] (by decide +kernel) (by decide +kernel)
set_option maxRecDepth 20000 in
theorem gX4_carryOut_X2_change : GoodIn wsX4_carryOut (wsV RX4 51 RX2 yX2_change wsX2_change) := goodIn_app (goodIn_of _ (by decide +kernel)) ggX4_carryOut_X2_change
set_option maxRecDepth 20000 in
theorem ggX4_carryOut_X2_add : GoodIn wsX4_carryOut wsX2_add := goodIn_r _ [42, 43, 44, 20, 45, 46, 47, 48, 49, 50, 51, 52, 53, 54, 55, 64, 65, 66, 67, 68, 69, 70, 71, 77, 78, 79, 80, 81, 82, 83] (by decide +kernel) (by decide +kernel)
set_option maxRecDepth 20000 in
theorem gX4_carryOut_X2_add : GoodIn wsX4_carryOut (wsV RX4 54 RX2 yX2_add wsX2_add) := goodIn_app (goodIn_of _ (by decide +kernel)) ggX4_carryOut_X2_add
set_option maxRecDepth 20000 in
theorem ggX4_carryOut_X2_hasComer : GoodIn wsX4_carryOut wsX2_hasComer := goodIn_r _ [59, 43, 64, 65, 66, 67, 68, 69, 70, 71] (by decide +kernel) (by decide +kernel)
set_option maxRecDepth 20000 in
theorem gX4_carryOut_X2_hasComer : GoodIn wsX4_carryOut (wsV RX4 58 RX2 yX2_hasComer wsX2_hasComer) := goodIn_app (goodIn_of _ (by decide +kernel)) ggX4_carryOut_X2_hasComer
set_option maxRecDepth 20000 in
theorem ggX4_carryOut_X1_become : GoodIn wsX4_carryOut wsX1_become := goodIn_r _ [53, 54, 55, 77, 78, 79, 80, 81, 82, 83] (by decide +kernel) (by decide +kernel)
set_option maxRecDepth 20000 in
theorem gX4_carryOut_X1_become : GoodIn wsX4_carryOut (wsV RX4 65 RX1 yX1_become wsX1_become) := goodIn_app (goodIn_of _ (by decide +kernel)) ggX4_carryOut_X1_become
theorem dX4_carryOut_0 : decode cX4_carryOut 0 = .ok (.aload_n 0, 1) := by decide +kernel
theorem dX4_carryOut_1 : decode cX4_carryOut 1 = .ok (.iload_n 2, 1) := by decide +kernel
theorem dX4_carryOut_2 : decode cX4_carryOut 2 = .ok (.invokevirtual 38, 3) := by decide +kernel
theorem dX4_carryOut_5 : decode cX4_carryOut 5 = .ok (.bipush 115, 2) := by decide +kernel
theorem dX4_carryOut_7 : decode cX4_carryOut 7 = .ok (.if_icmp .ne 62, 3) := by decide +kernel
theorem dX4_carryOut_10 : decode cX4_carryOut 10 = .ok (.aload_n 0, 1) := by decide +kernel
theorem dX4_carryOut_11 : decode cX4_carryOut 11 = .ok (.iload_n 2, 1) := by decide +kernel
theorem dX4_carryOut_12 : decode cX4_carryOut 12 = .ok (.iconst 1, 1) := by decide +kernel
theorem dX4_carryOut_13 : decode cX4_carryOut 13 = .ok (.iadd, 1) := by decide +kernel
theorem dX4_carryOut_14 : decode cX4_carryOut 14 = .ok (.iconst 1, 1) := by decide +kernel
theorem dX4_carryOut_15 : decode cX4_carryOut 15 = .ok (.invokevirtual 42, 3) := by decide +kernel
theorem dX4_carryOut_18 : decode cX4_carryOut 18 = .ok (.istore_n 3, 1) := by decide +kernel
theorem dX4_carryOut_19 : decode cX4_carryOut 19 = .ok (.aload_n 0, 1) := by decide +kernel
theorem dX4_carryOut_20 : decode cX4_carryOut 20 = .ok (.iload_n 2, 1) := by decide +kernel
theorem dX4_carryOut_21 : decode cX4_carryOut 21 = .ok (.iconst 3, 1) := by decide +kernel
theorem dX4_carryOut_22 : decode cX4_carryOut 22 = .ok (.iadd, 1) := by decide +kernel
theorem dX4_carryOut_23 : decode cX4_carryOut 23 = .ok (.aload_n 0, 1) := by decide +kernel
theorem dX4_carryOut_24 : decode cX4_carryOut 24 = .ok (.getfield 19, 3) := by decide +kernel
theorem dX4_carryOut_27 : decode cX4_carryOut 27 = .ok (.iload_n 2, 1) := by decide +kernel
theorem dX4_carryOut_28 : decode cX4_carryOut 28 = .ok (.isub, 1) := by decide +kernel
theorem dX4_carryOut_29 : decode cX4_carryOut 29 = .ok (.iconst 4, 1) := by decide +kernel
theorem dX4_carryOut_30 : decode cX4_carryOut 30 = .ok (.isub, 1) := by decide +kernel
theorem dX4_carryOut_31 : decode cX4_carryOut 31 = .ok (.invokevirtual 42, 3) := by decide +kernel
theorem dX4_carryOut_34 : decode cX4_carryOut 34 = .ok (.istore 4, 2) := by decide +kernel
theorem dX4_carryOut_36 : decode cX4_carryOut 36 = .ok (.aload_n 1, 1) := by decide +kernel
theorem dX4_carryOut_37 : decode cX4_carryOut 37 = .ok (.iload_n 3, 1) := by decide +kernel
theorem dX4_carryOut_38 : decode cX4_carryOut 38 = .ok (.iload 4, 2) := by decide +kernel
theorem dX4_carryOut_40 : decode cX4_carryOut 40 = .ok (.invokevirtual 46, 3) := by decide +kernel
theorem dX4_carryOut_43 : decode cX4_carryOut 43 = .ok (.ifCond .ne 7, 3) := by decide +kernel
theorem dX4_carryOut_46 : decode cX4_carryOut 46 = .ok (.iconst 1, 1) := by decide +kernel
theorem dX4_carryOut_47 : decode cX4_carryOut 47 = .ok (.goto 4, 3) := by decide +kernel
theorem dX4_carryOut_50 : decode cX4_carryOut 50 = .ok (.iconst 0, 1) := by decide +kernel
theorem dX4_carryOut_51 : decode cX4_carryOut 51 = .ok (.istore 5, 2) := by decide +kernel
theorem dX4_carryOut_53 : decode cX4_carryOut 53 = .ok (.iload 5, 2) := by decide +kernel
theorem dX4_carryOut_55 : decode cX4_carryOut 55 = .ok (.ifCond .eq 11, 3) := by decide +kernel
theorem dX4_carryOut_58 : decode cX4_carryOut 58 = .ok (.aload_n 1, 1) := by decide +kernel
theorem dX4_carryOut_59 : decode cX4_carryOut 59 = .ok (.iload_n 3, 1) := by decide +kernel
theorem dX4_carryOut_60 : decode cX4_carryOut 60 = .ok (.iload 4, 2) := by decide +kernel
theorem dX4_carryOut_62 : decode cX4_carryOut 62 = .ok (.invokevirtual 51, 3) := by decide +kernel
theorem dX4_carryOut_65 : decode cX4_carryOut 65 = .ok (.pop, 1) := by decide +kernel
theorem dX4_carryOut_66 : decode cX4_carryOut 66 = .ok (.iload 5, 2) := by decide +kernel
theorem dX4_carryOut_68 : decode cX4_carryOut 68 = .ok (.ireturn, 1) := by decide +kernel
theorem dX4_carryOut_69 : decode cX4_carryOut 69 = .ok (.aload_n 0, 1) := by decide +kernel
theorem dX4_carryOut_70 : decode cX4_carryOut 70 = .ok (.iload_n 2, 1) := by decide +kernel
theorem dX4_carryOut_71 : decode cX4_carryOut 71 = .ok (.invokevirtual 38, 3) := by decide +kernel
theorem dX4_carryOut_74 : decode cX4_carryOut 74 = .ok (.bipush 99, 2) := by decide +kernel
theorem dX4_carryOut_76 : decode cX4_carryOut 76 = .ok (.if_icmp .ne 50, 3) := by decide +kernel
theorem dX4_carryOut_79 : decode cX4_carryOut 79 = .ok (.aload_n 1, 1) := by decide +kernel
theorem dX4_carryOut_80 : decode cX4_carryOut 80 = .ok (.aload_n 0, 1) := by decide +kernel
theorem dX4_carryOut_81 : decode cX4_carryOut 81 = .ok (.iload_n 2, 1) := by decide +kernel
theorem dX4_carryOut_82 : decode cX4_carryOut 82 = .ok (.iconst 1, 1) := by decide +kernel
theorem dX4_carryOut_83 : decode cX4_carryOut 83 = .ok (.iadd, 1) := by decide +kernel
theorem dX4_carryOut_84 : decode cX4_carryOut 84 = .ok (.iconst 1, 1) := by decide +kernel
theorem dX4_carryOut_85 : decode cX4_carryOut 85 = .ok (.invokevirtual 42, 3) := by decide +kernel
theorem dX4_carryOut_88 : decode cX4_carryOut 88 = .ok (.aload_n 0, 1) := by decide +kernel
theorem dX4_carryOut_89 : decode cX4_carryOut 89 = .ok (.iload_n 2, 1) := by decide +kernel
theorem dX4_carryOut_90 : decode cX4_carryOut 90 = .ok (.iconst 2, 1) := by decide +kernel
theorem dX4_carryOut_91 : decode cX4_carryOut 91 = .ok (.iadd, 1) := by decide +kernel
theorem dX4_carryOut_92 : decode cX4_carryOut 92 = .ok (.iconst 1, 1) := by decide +kernel
theorem dX4_carryOut_93 : decode cX4_carryOut 93 = .ok (.invokevirtual 42, 3) := by decide +kernel
theorem dX4_carryOut_96 : decode cX4_carryOut 96 = .ok (.aload_n 0, 1) := by decide +kernel
theorem dX4_carryOut_97 : decode cX4_carryOut 97 = .ok (.iload_n 2, 1) := by decide +kernel
theorem dX4_carryOut_98 : decode cX4_carryOut 98 = .ok (.iconst 3, 1) := by decide +kernel
theorem dX4_carryOut_99 : decode cX4_carryOut 99 = .ok (.iadd, 1) := by decide +kernel
theorem dX4_carryOut_100 : decode cX4_carryOut 100 = .ok (.iconst 3, 1) := by decide +kernel
theorem dX4_carryOut_101 : decode cX4_carryOut 101 = .ok (.invokevirtual 42, 3) := by decide +kernel
theorem dX4_carryOut_104 : decode cX4_carryOut 104 = .ok (.aload_n 0, 1) := by decide +kernel
theorem dX4_carryOut_105 : decode cX4_carryOut 105 = .ok (.iload_n 2, 1) := by decide +kernel
theorem dX4_carryOut_106 : decode cX4_carryOut 106 = .ok (.bipush 6, 2) := by decide +kernel
theorem dX4_carryOut_108 : decode cX4_carryOut 108 = .ok (.iadd, 1) := by decide +kernel
theorem dX4_carryOut_109 : decode cX4_carryOut 109 = .ok (.iconst 1, 1) := by decide +kernel
theorem dX4_carryOut_110 : decode cX4_carryOut 110 = .ok (.invokevirtual 42, 3) := by decide +kernel
theorem dX4_carryOut_113 : decode cX4_carryOut 113 = .ok (.aload_n 0, 1) := by decide +kernel
theorem dX4_carryOut_114 : decode cX4_carryOut 114 = .ok (.iload_n 2, 1) := by decide +kernel
theorem dX4_carryOut_115 : decode cX4_carryOut 115 = .ok (.bipush 7, 2) := by decide +kernel
theorem dX4_carryOut_117 : decode cX4_carryOut 117 = .ok (.iadd, 1) := by decide +kernel
theorem dX4_carryOut_118 : decode cX4_carryOut 118 = .ok (.iconst 2, 1) := by decide +kernel
theorem dX4_carryOut_119 : decode cX4_carryOut 119 = .ok (.invokevirtual 42, 3) := by decide +kernel
theorem dX4_carryOut_122 : decode cX4_carryOut 122 = .ok (.invokevirtual 54, 3) := by decide +kernel
theorem dX4_carryOut_125 : decode cX4_carryOut 125 = .ok (.ireturn, 1) := by decide +kernel
theorem dX4_carryOut_126 : decode cX4_carryOut 126 = .ok (.aload_n 0, 1) := by decide +kernel
theorem dX4_carryOut_127 : decode cX4_carryOut 127 = .ok (.iload_n 2, 1) := by decide +kernel
theorem dX4_carryOut_128 : decode cX4_carryOut 128 = .ok (.iconst 1, 1) := by decide +kernel
theorem dX4_carryOut_129 : decode cX4_carryOut 129 = .ok (.iadd, 1) := by decide +kernel
theorem dX4_carryOut_130 : decode cX4_carryOut 130 = .ok (.iconst 1, 1) := by decide +kernel
theorem dX4_carryOut_131 : decode cX4_carryOut 131 = .ok (.invokevirtual 42, 3) := by decide +kernel
theorem dX4_carryOut_134 : decode cX4_carryOut 134 = .ok (.istore_n 3, 1) := by decide +kernel
theorem dX4_carryOut_135 : decode cX4_carryOut 135 = .ok (.aload_n 0, 1) := by decide +kernel
theorem dX4_carryOut_136 : decode cX4_carryOut 136 = .ok (.iload_n 2, 1) := by decide +kernel
theorem dX4_carryOut_137 : decode cX4_carryOut 137 = .ok (.iconst 2, 1) := by decide +kernel
theorem dX4_carryOut_138 : decode cX4_carryOut 138 = .ok (.iadd, 1) := by decide +kernel
theorem dX4_carryOut_139 : decode cX4_carryOut 139 = .ok (.iconst 1, 1) := by decide +kernel
theorem dX4_carryOut_140 : decode cX4_carryOut 140 = .ok (.invokevirtual 42, 3) := by decide +kernel
theorem dX4_carryOut_143 : decode cX4_carryOut 143 = .ok (.istore 4, 2) := by decide +kernel
theorem dX4_carryOut_145 : decode cX4_carryOut 145 = .ok (.aload_n 1, 1) := by decide +kernel
theorem dX4_carryOut_146 : decode cX4_carryOut 146 = .ok (.iload_n 3, 1) := by decide +kernel
theorem dX4_carryOut_147 : decode cX4_carryOut 147 = .ok (.invokevirtual 58, 3) := by decide +kernel
theorem dX4_carryOut_150 : decode cX4_carryOut 150 = .ok (.ifCond .eq 14, 3) := by decide +kernel
theorem dX4_carryOut_153 : decode cX4_carryOut 153 = .ok (.iload 4, 2) := by decide +kernel
theorem dX4_carryOut_155 : decode cX4_carryOut 155 = .ok (.bipush 7, 2) := by decide +kernel
theorem dX4_carryOut_157 : decode cX4_carryOut 157 = .ok (.if_icmp .ge 7, 3) := by decide +kernel
theorem dX4_carryOut_160 : decode cX4_carryOut 160 = .ok (.iconst 1, 1) := by decide +kernel
theorem dX4_carryOut_161 : decode cX4_carryOut 161 = .ok (.goto 4, 3) := by decide +kernel
theorem dX4_carryOut_164 : decode cX4_carryOut 164 = .ok (.iconst 0, 1) := by decide +kernel
theorem dX4_carryOut_165 : decode cX4_carryOut 165 = .ok (.istore 5, 2) := by decide +kernel
theorem dX4_carryOut_167 : decode cX4_carryOut 167 = .ok (.iload 5, 2) := by decide +kernel
theorem dX4_carryOut_169 : decode cX4_carryOut 169 = .ok (.ifCond .eq 22, 3) := by decide +kernel
theorem dX4_carryOut_172 : decode cX4_carryOut 172 = .ok (.aload_n 1, 1) := by decide +kernel
theorem dX4_carryOut_173 : decode cX4_carryOut 173 = .ok (.getfield 61, 3) := by decide +kernel
theorem dX4_carryOut_176 : decode cX4_carryOut 176 = .ok (.iload_n 3, 1) := by decide +kernel
theorem dX4_carryOut_177 : decode cX4_carryOut 177 = .ok (.aaload, 1) := by decide +kernel
theorem dX4_carryOut_178 : decode cX4_carryOut 178 = .ok (.iload 4, 2) := by decide +kernel
theorem dX4_carryOut_180 : decode cX4_carryOut 180 = .ok (.aload_n 0, 1) := by decide +kernel
theorem dX4_carryOut_181 : decode cX4_carryOut 181 = .ok (.iload_n 2, 1) := by decide +kernel
theorem dX4_carryOut_182 : decode cX4_carryOut 182 = .ok (.iconst 3, 1) := by decide +kernel
theorem dX4_carryOut_183 : decode cX4_carryOut 183 = .ok (.iadd, 1) := by decide +kernel
theorem dX4_carryOut_184 : decode cX4_carryOut 184 = .ok (.iconst 1, 1) := by decide +kernel
theorem dX4_carryOut_185 : decode cX4_carryOut 185 = .ok (.invokevirtual 42, 3) := by decide +kernel
theorem dX4_carryOut_188 : decode cX4_carryOut 188 = .ok (.invokevirtual 65, 3) := by decide +kernel
theorem dX4_carryOut_191 : decode cX4_carryOut 191 = .ok (.iload 5, 2) := by decide +kernel
theorem dX4_carryOut_193 : decode cX4_carryOut 193 = .ok (.ireturn, 1) := by decide +kernel
set_option maxRecDepth 20000 in
theorem ggX4_number_X4_letterAt : GoodIn wsX4_number wsX4_letterAt := goodIn_r _ [5, 6, 7, 8, 9, 10] (by decide +kernel) (by decide +kernel)
set_option maxRecDepth 20000 in
theorem gX4_number_X4_letterAt : GoodIn wsX4_number (wsV RX4 38 RX4 yX4_letterAt wsX4_letterAt) := goodIn_app (goodIn_of _ (by decide +kernel)) ggX4_number_X4_letterAt
theorem dX4_number_0 : decode cX4_number 0 = .ok (.iconst 0, 1) := by decide +kernel
theorem dX4_number_1 : decode cX4_number 1 = .ok (.istore_n 3, 1) := by decide +kernel
theorem dX4_number_2 : decode cX4_number 2 = .ok (.iconst 0, 1) := by decide +kernel
theorem dX4_number_3 : decode cX4_number 3 = .ok (.istore 4, 2) := by decide +kernel
theorem dX4_number_5 : decode cX4_number 5 = .ok (.iload 4, 2) := by decide +kernel
theorem dX4_number_7 : decode cX4_number 7 = .ok (.iload_n 2, 1) := by decide +kernel
theorem dX4_number_8 : decode cX4_number 8 = .ok (.if_icmp .ge 26, 3) := by decide +kernel
theorem dX4_number_11 : decode cX4_number 11 = .ok (.iload_n 3, 1) := by decide +kernel
theorem dX4_number_12 : decode cX4_number 12 = .ok (.bipush 10, 2) := by decide +kernel
theorem dX4_number_14 : decode cX4_number 14 = .ok (.imul, 1) := by decide +kernel
theorem dX4_number_15 : decode cX4_number 15 = .ok (.aload_n 0, 1) := by decide +kernel
theorem dX4_number_16 : decode cX4_number 16 = .ok (.iload_n 1, 1) := by decide +kernel
theorem dX4_number_17 : decode cX4_number 17 = .ok (.iload 4, 2) := by decide +kernel
theorem dX4_number_19 : decode cX4_number 19 = .ok (.iadd, 1) := by decide +kernel
theorem dX4_number_20 : decode cX4_number 20 = .ok (.invokevirtual 38, 3) := by decide +kernel
theorem dX4_number_23 : decode cX4_number 23 = .ok (.iadd, 1) := by decide +kernel
theorem dX4_number_24 : decode cX4_number 24 = .ok (.bipush 48, 2) := by decide +kernel
theorem dX4_number_26 : decode cX4_number 26 = .ok (.isub, 1) := by decide +kernel
theorem dX4_number_27 : decode cX4_number 27 = .ok (.istore_n 3, 1) := by decide +kernel
theorem dX4_number_28 : decode cX4_number 28 = .ok (.iinc 4 1, 3) := by decide +kernel
theorem dX4_number_31 : decode cX4_number 31 = .ok (.goto (-26), 3) := by decide +kernel
theorem dX4_number_34 : decode cX4_number 34 = .ok (.iload_n 3, 1) := by decide +kernel
theorem dX4_number_35 : decode cX4_number 35 = .ok (.ireturn, 1) := by decide +kernel
theorem dX4_letterAt_0 : decode cX4_letterAt 0 = .ok (.iload_n 1, 1) := by decide +kernel
theorem dX4_letterAt_1 : decode cX4_letterAt 1 = .ok (.ifCond .lt 29, 3) := by decide +kernel
theorem dX4_letterAt_4 : decode cX4_letterAt 4 = .ok (.iload_n 1, 1) := by decide +kernel
theorem dX4_letterAt_5 : decode cX4_letterAt 5 = .ok (.aload_n 0, 1) := by decide +kernel
theorem dX4_letterAt_6 : decode cX4_letterAt 6 = .ok (.getfield 15, 3) := by decide +kernel
theorem dX4_letterAt_9 : decode cX4_letterAt 9 = .ok (.if_icmp .ge 21, 3) := by decide +kernel
theorem dX4_letterAt_12 : decode cX4_letterAt 12 = .ok (.iload_n 1, 1) := by decide +kernel
theorem dX4_letterAt_13 : decode cX4_letterAt 13 = .ok (.aload_n 0, 1) := by decide +kernel
theorem dX4_letterAt_14 : decode cX4_letterAt 14 = .ok (.getfield 9, 3) := by decide +kernel
theorem dX4_letterAt_17 : decode cX4_letterAt 17 = .ok (.arraylength, 1) := by decide +kernel
theorem dX4_letterAt_18 : decode cX4_letterAt 18 = .ok (.if_icmp .ge 12, 3) := by decide +kernel
theorem dX4_letterAt_21 : decode cX4_letterAt 21 = .ok (.aload_n 0, 1) := by decide +kernel
theorem dX4_letterAt_22 : decode cX4_letterAt 22 = .ok (.getfield 9, 3) := by decide +kernel
theorem dX4_letterAt_25 : decode cX4_letterAt 25 = .ok (.iload_n 1, 1) := by decide +kernel
theorem dX4_letterAt_26 : decode cX4_letterAt 26 = .ok (.iaload, 1) := by decide +kernel
theorem dX4_letterAt_27 : decode cX4_letterAt 27 = .ok (.goto 5, 3) := by decide +kernel
theorem dX4_letterAt_30 : decode cX4_letterAt 30 = .ok (.bipush (-9), 2) := by decide +kernel
theorem dX4_letterAt_32 : decode cX4_letterAt 32 = .ok (.ireturn, 1) := by decide +kernel
set_option maxRecDepth 20000 in
theorem ggX5_init_X2_init : GoodIn wsX5_init wsX2_init := goodIn_r _ [10, 11, 2, 3, 12, 13, 14, 15, 16, 17, 18, 19, 20, 21, 22, 23, 24, 25, 26, 27, 28, 29, 30, 31, 32, 33, 34, 35, 36, 37, 38, 39, 40, 41, 42, 45, 46, 47, 48, 49, 50, 51, 52, 53, 54, 55, 56] (by decide +kernel) (by decide +kernel)
set_option maxRecDepth 20000 in
theorem gX5_init_X2_init : GoodIn wsX5_init (wsX2_init) := ggX5_init_X2_init
theorem dX5_init_0 : decode cX5_init 0 = .ok (.aload_n 0, 1) := by decide +kernel
theorem dX5_init_1 : decode cX5_init 1 = .ok (.invokespecial 3, 3) := by decide +kernel
theorem dX5_init_4 : decode cX5_init 4 = .ok (.aload_n 0, 1) := by decide +kernel
theorem dX5_init_5 : decode cX5_init 5 = .ok (.new 9, 3) := by decide +kernel
theorem dX5_init_8 : decode cX5_init 8 = .ok (.dup, 1) := by decide +kernel
theorem dX5_init_9 : decode cX5_init 9 = .ok (.invokespecial 11, 3) := by decide +kernel
theorem dX5_init_12 : decode cX5_init 12 = .ok (.putfield 12, 3) := by decide +kernel
theorem dX5_init_15 : decode cX5_init 15 = .ok (.return_, 1) := by decide +kernel
set_option maxRecDepth 20000 in
theorem ggX5_take_X2_copy : GoodIn wsX5_take wsX2_copy := goodIn_r _ [6, 7, 8, 9, 10, 11, 12, 13, 14, 15, 16, 17, 18, 19, 20, 21, 22, 23, 24, 25, 26, 27, 28, 29, 30, 31, 32, 33, 34, 35, 36, 37, 38, 39, 40, 41, 42, 43, 46, 47, 48, 49, 50, 51, 52, 53, 54, 55, 56, 57, 58, 59, 60, 61, 62, 63, 64, 65] (by decide +kernel) (by decide +kernel)
set_option maxRecDepth 20000 in
theorem gX5_take_X2_copy : GoodIn wsX5_take (wsV RX5 18 RX2 yX2_copy wsX2_copy) := goodIn_app (goodIn_of _ (by decide +kernel)) ggX5_take_X2_copy
theorem dX5_take_0 : decode cX5_take 0 = .ok (.aload_n 0, 1) := by decide +kernel
theorem dX5_take_1 : decode cX5_take 1 = .ok (.getfield 12, 3) := by decide +kernel
theorem dX5_take_4 : decode cX5_take 4 = .ok (.aload_n 1, 1) := by decide +kernel
theorem dX5_take_5 : decode cX5_take 5 = .ok (.invokevirtual 18, 3) := by decide +kernel
theorem dX5_take_8 : decode cX5_take 8 = .ok (.return_, 1) := by decide +kernel
set_option maxRecDepth 20000 in
theorem ggX5_restOfDay_X2_pass : GoodIn wsX5_restOfDay wsX2_pass := goodIn_r _ [7, 8, 9, 10, 6, 11, 12, 13, 14, 15, 16, 17, 18, 19, 20, 21, 22, 23, 24, 25, 26, 27, 28, 29, 30, 31, 32, 33, 34, 35, 36, 37, 38, 39, 40, 41, 42, 43, 44, 45, 46, 47, 48, 49, 50, 51, 52, 53, 54, 55, 56, 57, 58, 59, 60, 61, 62, 63, 64, 65, 66, 67, 68, 69, 70, 71, 72, 73, 74, 75, 76, 77, 78, 79, 80, 81, 82, 83, 84, 85, 86, 87, 88, 89, 90, 91, 92, 93, 94, 95, 96, 97, 98, 99, 100, 101, 102, 103, 104, 105, 106, 107, 108, 109, 110, 111, 112, 113, 114, 115, 116, 117, 118, 119, 120, 121, 122, 123, 124, 125, 126, 127, 128, 129, 156, 157, 158, 159, 160, 161, 162, 163, 164, 165, 166, 167, 168, 169, 170, 171, 172, 173, 174, 175] (by decide +kernel) (by decide +kernel)
set_option maxRecDepth 20000 in
theorem gX5_restOfDay_X2_pass : GoodIn wsX5_restOfDay (wsV RX5 26 RX2 yX2_pass wsX2_pass) := goodIn_app (goodIn_of _ (by decide +kernel)) ggX5_restOfDay_X2_pass
set_option maxRecDepth 20000 in
theorem ggX5_restOfDay_X2_allWaited : GoodIn wsX5_restOfDay wsX2_allWaited := goodIn_r _ [133, 18, 19, 134, 135, 136, 137, 138, 139, 140, 141, 142, 156, 157, 158, 159, 160, 161, 162, 163, 164, 165, 166, 167, 168, 169, 170] (by decide +kernel) (by decide +kernel)
set_option maxRecDepth 20000 in
theorem gX5_restOfDay_X2_allWaited : GoodIn wsX5_restOfDay (wsV RX5 30 RX2 yX2_allWaited wsX2_allWaited) := goodIn_app (goodIn_of _ (by decide +kernel)) ggX5_restOfDay_X2_allWaited
set_option maxRecDepth 20000 in
theorem ggX5_restOfDay_X2_comersWith : GoodIn wsX5_restOfDay wsX2_comersWith := goodIn_r _ [17, 18, 19, 20, 156, 157, 158, 159, 160, 161, 162, 163, 164, 165, 166, 167, 168, 169, 170] (by decide +kernel) (by decide +kernel)
set_option maxRecDepth 20000 in
theorem gX5_restOfDay_X2_comersWith : GoodIn wsX5_restOfDay (wsV RX5 34 RX2 yX2_comersWith wsX2_comersWith) := goodIn_app (goodIn_of _ (by decide +kernel)) ggX5_restOfDay_X2_comersWith
set_option maxRecDepth 20000 in
theorem ggX5_restOfDay_X2_cupsLeft : GoodIn wsX5_restOfDay wsX2_cupsLeft := goodIn_r _ [147, 25, 61, 26, 27, 28, 6, 29, 30, 156, 157, 158, 159, 160, 161, 162, 163, 171, 172, 173, 174, 175] (by decide +kernel) (by decide +kernel)
set_option maxRecDepth 20000 in
theorem gX5_restOfDay_X2_cupsLeft : GoodIn wsX5_restOfDay (wsV RX5 38 RX2 yX2_cupsLeft wsX2_cupsLeft) := goodIn_app (goodIn_of _ (by decide +kernel)) ggX5_restOfDay_X2_cupsLeft
set_option maxRecDepth 20000 in
theorem ggX5_restOfDay_X2_cost : GoodIn wsX5_restOfDay wsX2_cost := goodIn_r _ [151, 30, 152, 131, 132, 6, 133, 18, 19, 134, 135, 136, 137, 138, 139, 140, 141, 142, 153, 145, 146, 147, 25, 61, 26, 27, 28, 29, 14, 15, 16, 17, 20, 156, 157, 158, 159, 160, 161, 162, 163, 164, 165, 166, 167, 168, 169, 170, 171, 172, 173, 174, 175] (by decide +kernel) (by decide +kernel)
set_option maxRecDepth 20000 in
theorem gX5_restOfDay_X2_cost : GoodIn wsX5_restOfDay (wsV RX5 41 RX2 yX2_cost wsX2_cost) := goodIn_app (goodIn_of _ (by decide +kernel)) ggX5_restOfDay_X2_cost
theorem dX5_restOfDay_0 : decode cX5_restOfDay 0 = .ok (.aload_n 0, 1) := by decide +kernel
theorem dX5_restOfDay_1 : decode cX5_restOfDay 1 = .ok (.getfield 12, 3) := by decide +kernel
theorem dX5_restOfDay_4 : decode cX5_restOfDay 4 = .ok (.iconst 0, 1) := by decide +kernel
theorem dX5_restOfDay_5 : decode cX5_restOfDay 5 = .ok (.putfield 22, 3) := by decide +kernel
theorem dX5_restOfDay_8 : decode cX5_restOfDay 8 = .ok (.aload_n 0, 1) := by decide +kernel
theorem dX5_restOfDay_9 : decode cX5_restOfDay 9 = .ok (.getfield 12, 3) := by decide +kernel
theorem dX5_restOfDay_12 : decode cX5_restOfDay 12 = .ok (.sipush 180, 3) := by decide +kernel
theorem dX5_restOfDay_15 : decode cX5_restOfDay 15 = .ok (.invokevirtual 26, 3) := by decide +kernel
theorem dX5_restOfDay_18 : decode cX5_restOfDay 18 = .ok (.iload_n 1, 1) := by decide +kernel
theorem dX5_restOfDay_19 : decode cX5_restOfDay 19 = .ok (.tableswitch 62 0 3 #[29, 37, 46, 54], 29) := by decide +kernel
theorem dX5_restOfDay_48 : decode cX5_restOfDay 48 = .ok (.aload_n 0, 1) := by decide +kernel
theorem dX5_restOfDay_49 : decode cX5_restOfDay 49 = .ok (.getfield 12, 3) := by decide +kernel
theorem dX5_restOfDay_52 : decode cX5_restOfDay 52 = .ok (.invokevirtual 30, 3) := by decide +kernel
theorem dX5_restOfDay_55 : decode cX5_restOfDay 55 = .ok (.ireturn, 1) := by decide +kernel
theorem dX5_restOfDay_56 : decode cX5_restOfDay 56 = .ok (.aload_n 0, 1) := by decide +kernel
theorem dX5_restOfDay_57 : decode cX5_restOfDay 57 = .ok (.getfield 12, 3) := by decide +kernel
theorem dX5_restOfDay_60 : decode cX5_restOfDay 60 = .ok (.iconst 3, 1) := by decide +kernel
theorem dX5_restOfDay_61 : decode cX5_restOfDay 61 = .ok (.invokevirtual 34, 3) := by decide +kernel
theorem dX5_restOfDay_64 : decode cX5_restOfDay 64 = .ok (.ireturn, 1) := by decide +kernel
theorem dX5_restOfDay_65 : decode cX5_restOfDay 65 = .ok (.aload_n 0, 1) := by decide +kernel
theorem dX5_restOfDay_66 : decode cX5_restOfDay 66 = .ok (.getfield 12, 3) := by decide +kernel
theorem dX5_restOfDay_69 : decode cX5_restOfDay 69 = .ok (.getfield 22, 3) := by decide +kernel
theorem dX5_restOfDay_72 : decode cX5_restOfDay 72 = .ok (.ireturn, 1) := by decide +kernel
theorem dX5_restOfDay_73 : decode cX5_restOfDay 73 = .ok (.aload_n 0, 1) := by decide +kernel
theorem dX5_restOfDay_74 : decode cX5_restOfDay 74 = .ok (.getfield 12, 3) := by decide +kernel
theorem dX5_restOfDay_77 : decode cX5_restOfDay 77 = .ok (.invokevirtual 38, 3) := by decide +kernel
theorem dX5_restOfDay_80 : decode cX5_restOfDay 80 = .ok (.ireturn, 1) := by decide +kernel
theorem dX5_restOfDay_81 : decode cX5_restOfDay 81 = .ok (.aload_n 0, 1) := by decide +kernel
theorem dX5_restOfDay_82 : decode cX5_restOfDay 82 = .ok (.getfield 12, 3) := by decide +kernel
theorem dX5_restOfDay_85 : decode cX5_restOfDay 85 = .ok (.invokevirtual 41, 3) := by decide +kernel
theorem dX5_restOfDay_88 : decode cX5_restOfDay 88 = .ok (.ireturn, 1) := by decide +kernel
set_option maxRecDepth 20000 in
theorem ggX5_servedAt_X2_pass : GoodIn wsX5_servedAt wsX2_pass := goodIn_r _ [9, 10, 11, 12, 8, 13, 14, 15, 16, 17, 18, 19, 20, 21, 22, 23, 24, 25, 26, 27, 28, 29, 30, 31, 32, 33, 34, 35, 36, 37, 38, 39, 40, 41, 42, 43, 44, 45, 46, 47, 48, 49, 50, 51, 52, 53, 54, 55, 56, 57, 58, 59, 60, 61, 62, 63, 64, 65, 66, 67, 68, 69, 70, 71, 72, 73, 74, 75, 76, 77, 78, 79, 80, 81, 82, 83, 84, 85, 86, 87, 88, 89, 90, 91, 92, 93, 94, 95, 96, 97, 98, 99, 100, 101, 102, 103, 104, 105, 106, 107, 108, 109, 110, 111, 112, 113, 114, 115, 116, 117, 118, 119, 120, 121, 122, 123, 124, 125, 126, 127, 128, 129, 130, 131, 134, 135, 136, 137, 138, 139, 140, 141, 142, 143, 144, 145, 146, 147, 148, 149, 150, 151, 152, 153] (by decide +kernel) (by decide +kernel)
set_option maxRecDepth 20000 in
theorem gX5_servedAt_X2_pass : GoodIn wsX5_servedAt (wsV RX5 26 RX2 yX2_pass wsX2_pass) := goodIn_app (goodIn_of _ (by decide +kernel)) ggX5_servedAt_X2_pass
theorem dX5_servedAt_0 : decode cX5_servedAt 0 = .ok (.aload_n 0, 1) := by decide +kernel
theorem dX5_servedAt_1 : decode cX5_servedAt 1 = .ok (.getfield 12, 3) := by decide +kernel
theorem dX5_servedAt_4 : decode cX5_servedAt 4 = .ok (.sipush 180, 3) := by decide +kernel
theorem dX5_servedAt_7 : decode cX5_servedAt 7 = .ok (.invokevirtual 26, 3) := by decide +kernel
theorem dX5_servedAt_10 : decode cX5_servedAt 10 = .ok (.aload_n 0, 1) := by decide +kernel
theorem dX5_servedAt_11 : decode cX5_servedAt 11 = .ok (.getfield 12, 3) := by decide +kernel
theorem dX5_servedAt_14 : decode cX5_servedAt 14 = .ok (.getfield 44, 3) := by decide +kernel
theorem dX5_servedAt_17 : decode cX5_servedAt 17 = .ok (.iload_n 1, 1) := by decide +kernel
theorem dX5_servedAt_18 : decode cX5_servedAt 18 = .ok (.aaload, 1) := by decide +kernel
theorem dX5_servedAt_19 : decode cX5_servedAt 19 = .ok (.astore_n 2, 1) := by decide +kernel
theorem dX5_servedAt_20 : decode cX5_servedAt 20 = .ok (.aload_n 2, 1) := by decide +kernel
theorem dX5_servedAt_21 : decode cX5_servedAt 21 = .ok (.getfield 48, 3) := by decide +kernel
theorem dX5_servedAt_24 : decode cX5_servedAt 24 = .ok (.iconst 2, 1) := by decide +kernel
theorem dX5_servedAt_25 : decode cX5_servedAt 25 = .ok (.if_icmp .ne 10, 3) := by decide +kernel
theorem dX5_servedAt_28 : decode cX5_servedAt 28 = .ok (.aload_n 2, 1) := by decide +kernel
theorem dX5_servedAt_29 : decode cX5_servedAt 29 = .ok (.getfield 53, 3) := by decide +kernel
theorem dX5_servedAt_32 : decode cX5_servedAt 32 = .ok (.goto 5, 3) := by decide +kernel
theorem dX5_servedAt_35 : decode cX5_servedAt 35 = .ok (.bipush (-9), 2) := by decide +kernel
theorem dX5_servedAt_37 : decode cX5_servedAt 37 = .ok (.ireturn, 1) := by decide +kernel
set_option maxRecDepth 20000 in
theorem ggX5_costAnew_X2_begin : GoodIn wsX5_costAnew wsX2_begin := goodIn_r _ [6, 7, 8, 9, 10, 11, 12, 13, 14, 15, 16, 17, 18, 19, 20, 21, 156, 157, 158, 159, 160, 161, 162, 163, 164, 165, 166, 167, 168, 169, 170, 171, 172, 173, 174, 175] (by decide +kernel) (by decide +kernel)
set_option maxRecDepth 20000 in
theorem gX5_costAnew_X2_begin : GoodIn wsX5_costAnew (wsV RX5 56 RX2 yX2_begin wsX2_begin) := goodIn_app (goodIn_of _ (by decide +kernel)) ggX5_costAnew_X2_begin
set_option maxRecDepth 20000 in
theorem ggX5_costAnew_X2_isOver : GoodIn wsX5_costAnew wsX2_isOver := goodIn_r _ [25, 7, 8, 26, 27, 28, 5, 29, 9, 10, 11, 30, 31, 32, 33, 12, 34, 35, 36, 37, 38, 39, 40, 41, 16, 42, 21, 156, 157, 158, 159, 160, 161, 162, 163, 164, 165, 166, 167, 168, 169, 170, 171, 172, 173, 174, 175] (by decide +kernel) (by decide +kernel)
set_option maxRecDepth 20000 in
theorem gX5_costAnew_X2_isOver : GoodIn wsX5_costAnew (wsV RX5 59 RX2 yX2_isOver wsX2_isOver) := goodIn_app (goodIn_of _ (by decide +kernel)) ggX5_costAnew_X2_isOver
set_option maxRecDepth 20000 in
theorem ggX5_costAnew_X2_passMinute : GoodIn wsX5_costAnew wsX2_passMinute := goodIn_r _ [46, 8, 47, 7, 48, 49, 50, 5, 51, 9, 10, 11, 52, 53, 54, 55, 56, 57, 58, 59, 60, 61, 62, 63, 64, 65, 66, 67, 68, 69, 70, 71, 72, 12, 34, 35, 36, 37, 38, 73, 74, 75, 16, 76, 21, 19, 18, 77, 78, 79, 80, 81, 82, 83, 84, 85, 86, 39, 40, 41, 42, 87, 88, 89, 90, 91, 92, 93, 94, 95, 96, 97, 98, 99, 100, 101, 102, 103, 104, 105, 106, 107, 108, 109, 110, 111, 112, 113, 114, 115, 116, 117, 118, 119, 20, 120, 121, 122, 123, 124, 125, 126, 127, 128, 129, 130, 131, 132, 156, 157, 158, 159, 160, 161, 162, 163, 164, 165, 166, 167, 168, 169, 170, 171, 172, 173, 174, 175] (by decide +kernel) (by decide +kernel)
set_option maxRecDepth 20000 in
theorem gX5_costAnew_X2_passMinute : GoodIn wsX5_costAnew (wsV RX5 63 RX2 yX2_passMinute wsX2_passMinute) := goodIn_app (goodIn_of _ (by decide +kernel)) ggX5_costAnew_X2_passMinute
set_option maxRecDepth 20000 in
theorem ggX5_costAnew_X2_cost : GoodIn wsX5_costAnew wsX2_cost := goodIn_r _ [136, 38, 137, 138, 139, 5, 140, 9, 10, 141, 142, 143, 144, 145, 146, 147, 148, 149, 150, 151, 152, 153, 12, 67, 34, 35, 36, 37, 26, 27, 28, 29, 11, 156, 157, 158, 159, 160, 161, 162, 163, 164, 165, 166, 167, 168, 169, 170, 171, 172, 173, 174, 175] (by decide +kernel) (by decide +kernel)
set_option maxRecDepth 20000 in
theorem gX5_costAnew_X2_cost : GoodIn wsX5_costAnew (wsV RX5 41 RX2 yX2_cost wsX2_cost) := goodIn_app (goodIn_of _ (by decide +kernel)) ggX5_costAnew_X2_cost
theorem dX5_costAnew_0 : decode cX5_costAnew 0 = .ok (.aload_n 0, 1) := by decide +kernel
theorem dX5_costAnew_1 : decode cX5_costAnew 1 = .ok (.getfield 12, 3) := by decide +kernel
theorem dX5_costAnew_4 : decode cX5_costAnew 4 = .ok (.invokevirtual 56, 3) := by decide +kernel
theorem dX5_costAnew_7 : decode cX5_costAnew 7 = .ok (.iconst 0, 1) := by decide +kernel
theorem dX5_costAnew_8 : decode cX5_costAnew 8 = .ok (.istore_n 1, 1) := by decide +kernel
theorem dX5_costAnew_9 : decode cX5_costAnew 9 = .ok (.iload_n 1, 1) := by decide +kernel
theorem dX5_costAnew_10 : decode cX5_costAnew 10 = .ok (.sipush 180, 3) := by decide +kernel
theorem dX5_costAnew_13 : decode cX5_costAnew 13 = .ok (.if_icmp .ge 26, 3) := by decide +kernel
theorem dX5_costAnew_16 : decode cX5_costAnew 16 = .ok (.aload_n 0, 1) := by decide +kernel
theorem dX5_costAnew_17 : decode cX5_costAnew 17 = .ok (.getfield 12, 3) := by decide +kernel
theorem dX5_costAnew_20 : decode cX5_costAnew 20 = .ok (.invokevirtual 59, 3) := by decide +kernel
theorem dX5_costAnew_23 : decode cX5_costAnew 23 = .ok (.ifCond .ne 16, 3) := by decide +kernel
theorem dX5_costAnew_26 : decode cX5_costAnew 26 = .ok (.aload_n 0, 1) := by decide +kernel
theorem dX5_costAnew_27 : decode cX5_costAnew 27 = .ok (.getfield 12, 3) := by decide +kernel
theorem dX5_costAnew_30 : decode cX5_costAnew 30 = .ok (.invokevirtual 63, 3) := by decide +kernel
theorem dX5_costAnew_33 : decode cX5_costAnew 33 = .ok (.iinc 1 1, 3) := by decide +kernel
theorem dX5_costAnew_36 : decode cX5_costAnew 36 = .ok (.goto (-27), 3) := by decide +kernel
theorem dX5_costAnew_39 : decode cX5_costAnew 39 = .ok (.aload_n 0, 1) := by decide +kernel
theorem dX5_costAnew_40 : decode cX5_costAnew 40 = .ok (.getfield 12, 3) := by decide +kernel
theorem dX5_costAnew_43 : decode cX5_costAnew 43 = .ok (.invokevirtual 41, 3) := by decide +kernel
theorem dX5_costAnew_46 : decode cX5_costAnew 46 = .ok (.ireturn, 1) := by decide +kernel
set_option maxRecDepth 20000 in
theorem ggX5_bestKind_X5_costAnew : GoodIn wsX5_bestKind wsX5_costAnew := goodIn_r _ [10, 1, 11, 12, 13, 14, 15, 16, 17, 18, 19, 20, 21, 22, 23, 24, 25, 26, 27, 28, 29, 30, 31, 32, 33, 34, 35, 36, 37, 38, 39, 40, 41, 42, 43, 44, 45, 46, 47, 48, 49, 50, 51, 52, 53, 54, 55, 56, 57, 58, 59, 60, 61, 62, 63, 64, 65, 66, 67, 68, 69, 70, 71, 72, 73, 74, 75, 76, 77, 78, 79, 80, 81, 82, 83, 84, 85, 86, 87, 88, 89, 90, 91, 92, 93, 94, 95, 96, 97, 98, 99, 100, 101, 102, 103, 104, 105, 106, 107, 108, 109, 110, 111, 112, 113, 114, 115, 116, 117, 118, 119, 120, 121, 122, 123, 124, 125, 126, 127, 128, 129, 130, 131, 132, 133, 134, 135, 136, 137, 138, 139, 140, 141, 142, 143, 144, 145, 146, 147, 148, 149, 150, 151, 152, 153, 154, 155, 156, 157, 158, 159, 160, 161, 162, 164, 165, 166, 167, 168, 169, 170, 171, 172, 173, 174, 175, 176, 177, 178, 179, 180, 181, 182, 183, 184, 185] (by decide +kernel) (by decide +kernel)
set_option maxRecDepth 20000 in
theorem gX5_bestKind_X5_costAnew : GoodIn wsX5_bestKind (wsV RX5 72 RX5 yX5_costAnew wsX5_costAnew) := goodIn_app (goodIn_of _ (by decide +kernel)) ggX5_bestKind_X5_costAnew
set_option maxRecDepth 20000 in
theorem ggX5_bestKind_X1_waited : GoodIn wsX5_bestKind wsX1_waited := goodIn_r _ [154, 155, 156, 157, 158, 174, 175, 176, 177, 178, 179, 180] (by decide +kernel) (by decide +kernel)
set_option maxRecDepth 20000 in
theorem gX5_bestKind_X1_waited : GoodIn wsX5_bestKind (wsV RX5 75 RX1 yX1_waited wsX1_waited) := goodIn_app (goodIn_of _ (by decide +kernel)) ggX5_bestKind_X1_waited
theorem dX5_bestKind_0 : decode cX5_bestKind 0 = .ok (.aload_n 0, 1) := by decide +kernel
theorem dX5_bestKind_1 : decode cX5_bestKind 1 = .ok (.getfield 12, 3) := by decide +kernel
theorem dX5_bestKind_4 : decode cX5_bestKind 4 = .ok (.getfield 44, 3) := by decide +kernel
theorem dX5_bestKind_7 : decode cX5_bestKind 7 = .ok (.iload_n 1, 1) := by decide +kernel
theorem dX5_bestKind_8 : decode cX5_bestKind 8 = .ok (.aaload, 1) := by decide +kernel
theorem dX5_bestKind_9 : decode cX5_bestKind 9 = .ok (.astore_n 3, 1) := by decide +kernel
theorem dX5_bestKind_10 : decode cX5_bestKind 10 = .ok (.aload_n 3, 1) := by decide +kernel
theorem dX5_bestKind_11 : decode cX5_bestKind 11 = .ok (.getfield 66, 3) := by decide +kernel
theorem dX5_bestKind_14 : decode cX5_bestKind 14 = .ok (.istore 4, 2) := by decide +kernel
theorem dX5_bestKind_16 : decode cX5_bestKind 16 = .ok (.iconst 0, 1) := by decide +kernel
theorem dX5_bestKind_17 : decode cX5_bestKind 17 = .ok (.istore 5, 2) := by decide +kernel
theorem dX5_bestKind_19 : decode cX5_bestKind 19 = .ok (.ldc 71, 2) := by decide +kernel
theorem dX5_bestKind_21 : decode cX5_bestKind 21 = .ok (.istore 6, 2) := by decide +kernel
theorem dX5_bestKind_23 : decode cX5_bestKind 23 = .ok (.iconst 0, 1) := by decide +kernel
theorem dX5_bestKind_24 : decode cX5_bestKind 24 = .ok (.istore 7, 2) := by decide +kernel
theorem dX5_bestKind_26 : decode cX5_bestKind 26 = .ok (.iload 7, 2) := by decide +kernel
theorem dX5_bestKind_28 : decode cX5_bestKind 28 = .ok (.bipush 7, 2) := by decide +kernel
theorem dX5_bestKind_30 : decode cX5_bestKind 30 = .ok (.if_icmp .ge 59, 3) := by decide +kernel
theorem dX5_bestKind_33 : decode cX5_bestKind 33 = .ok (.aload_n 3, 1) := by decide +kernel
theorem dX5_bestKind_34 : decode cX5_bestKind 34 = .ok (.iload 7, 2) := by decide +kernel
theorem dX5_bestKind_36 : decode cX5_bestKind 36 = .ok (.putfield 66, 3) := by decide +kernel
theorem dX5_bestKind_39 : decode cX5_bestKind 39 = .ok (.aload_n 0, 1) := by decide +kernel
theorem dX5_bestKind_40 : decode cX5_bestKind 40 = .ok (.invokevirtual 72, 3) := by decide +kernel
theorem dX5_bestKind_43 : decode cX5_bestKind 43 = .ok (.istore 8, 2) := by decide +kernel
theorem dX5_bestKind_45 : decode cX5_bestKind 45 = .ok (.iload_n 2, 1) := by decide +kernel
theorem dX5_bestKind_46 : decode cX5_bestKind 46 = .ok (.ifCond .eq 22, 3) := by decide +kernel
theorem dX5_bestKind_49 : decode cX5_bestKind 49 = .ok (.aload_n 3, 1) := by decide +kernel
theorem dX5_bestKind_50 : decode cX5_bestKind 50 = .ok (.getfield 48, 3) := by decide +kernel
theorem dX5_bestKind_53 : decode cX5_bestKind 53 = .ok (.iconst 2, 1) := by decide +kernel
theorem dX5_bestKind_54 : decode cX5_bestKind 54 = .ok (.if_icmp .ne 10, 3) := by decide +kernel
theorem dX5_bestKind_57 : decode cX5_bestKind 57 = .ok (.aload_n 3, 1) := by decide +kernel
theorem dX5_bestKind_58 : decode cX5_bestKind 58 = .ok (.invokevirtual 75, 3) := by decide +kernel
theorem dX5_bestKind_61 : decode cX5_bestKind 61 = .ok (.goto 5, 3) := by decide +kernel
theorem dX5_bestKind_64 : decode cX5_bestKind 64 = .ok (.bipush 99, 2) := by decide +kernel
theorem dX5_bestKind_66 : decode cX5_bestKind 66 = .ok (.istore 8, 2) := by decide +kernel
theorem dX5_bestKind_68 : decode cX5_bestKind 68 = .ok (.iload 8, 2) := by decide +kernel
theorem dX5_bestKind_70 : decode cX5_bestKind 70 = .ok (.iload 6, 2) := by decide +kernel
theorem dX5_bestKind_72 : decode cX5_bestKind 72 = .ok (.if_icmp .ge 11, 3) := by decide +kernel
theorem dX5_bestKind_75 : decode cX5_bestKind 75 = .ok (.iload 8, 2) := by decide +kernel
theorem dX5_bestKind_77 : decode cX5_bestKind 77 = .ok (.istore 6, 2) := by decide +kernel
theorem dX5_bestKind_79 : decode cX5_bestKind 79 = .ok (.iload 7, 2) := by decide +kernel
theorem dX5_bestKind_81 : decode cX5_bestKind 81 = .ok (.istore 5, 2) := by decide +kernel
theorem dX5_bestKind_83 : decode cX5_bestKind 83 = .ok (.iinc 7 1, 3) := by decide +kernel
theorem dX5_bestKind_86 : decode cX5_bestKind 86 = .ok (.goto (-60), 3) := by decide +kernel
theorem dX5_bestKind_89 : decode cX5_bestKind 89 = .ok (.aload_n 3, 1) := by decide +kernel
theorem dX5_bestKind_90 : decode cX5_bestKind 90 = .ok (.iload 4, 2) := by decide +kernel
theorem dX5_bestKind_92 : decode cX5_bestKind 92 = .ok (.putfield 66, 3) := by decide +kernel
theorem dX5_bestKind_95 : decode cX5_bestKind 95 = .ok (.iload 5, 2) := by decide +kernel
theorem dX5_bestKind_97 : decode cX5_bestKind 97 = .ok (.ireturn, 1) := by decide +kernel
set_option maxRecDepth 20000 in
theorem ggX5_playRounds_X5_bestKind : GoodIn wsX5_playRounds wsX5_bestKind := goodIn_r _ [9, 1, 3, 4, 10, 11, 12, 13, 14, 8, 15, 16, 17, 18, 19, 20, 21, 22, 23, 24, 25, 26, 27, 28, 29, 30, 31, 32, 33, 34, 35, 36, 37, 38, 39, 40, 41, 42, 43, 44, 45, 46, 47, 48, 49, 50, 51, 52, 53, 54, 55, 56, 57, 58, 59, 60, 61, 62, 63, 64, 65, 66, 67, 68, 69, 70, 71, 72, 73, 74, 75, 76, 77, 78, 79, 80, 81, 82, 83, 84, 85, 86, 87, 88, 89, 90, 91, 92, 93, 94, 95, 96, 97, 98, 99, 100, 101, 102, 103, 104, 105, 106, 107, 108, 109, 110, 111, 112, 113, 114, 115, 116, 117, 118, 119, 120, 121, 122, 123, 124, 125, 126, 127, 128, 129, 130, 131, 132, 133, 134, 135, 136, 137, 138, 139, 140, 141, 142, 143, 144, 145, 146, 147, 148, 149, 150, 151, 152, 153, 154, 155, 156, 157, 158, 159, 160, 161, 162, 163, 164, 165, 166, 167, 168, 169, 170, 171, 172, 173, 174, 175, 176, 177, 178, 179, 180, 181, 182, 183, 184, 185, 186, 187, 188, 189, 190] (by decide +kernel) (by decide +kernel)
set_option maxRecDepth 20000 in
theorem gX5_playRounds_X5_bestKind : GoodIn wsX5_playRounds (wsV RX5 81 RX5 yX5_bestKind wsX5_bestKind) := goodIn_app (goodIn_of _ (by decide +kernel)) ggX5_playRounds_X5_bestKind
theorem dX5_playRounds_0 : decode cX5_playRounds 0 = .ok (.iconst 1, 1) := by decide +kernel
theorem dX5_playRounds_1 : decode cX5_playRounds 1 = .ok (.istore_n 1, 1) := by decide +kernel
theorem dX5_playRounds_2 : decode cX5_playRounds 2 = .ok (.iconst 0, 1) := by decide +kernel
theorem dX5_playRounds_3 : decode cX5_playRounds 3 = .ok (.istore_n 2, 1) := by decide +kernel
theorem dX5_playRounds_4 : decode cX5_playRounds 4 = .ok (.iload_n 1, 1) := by decide +kernel
theorem dX5_playRounds_5 : decode cX5_playRounds 5 = .ok (.ifCond .eq 85, 3) := by decide +kernel
theorem dX5_playRounds_8 : decode cX5_playRounds 8 = .ok (.iload_n 2, 1) := by decide +kernel
theorem dX5_playRounds_9 : decode cX5_playRounds 9 = .ok (.bipush 20, 2) := by decide +kernel
theorem dX5_playRounds_11 : decode cX5_playRounds 11 = .ok (.if_icmp .ge 79, 3) := by decide +kernel
theorem dX5_playRounds_14 : decode cX5_playRounds 14 = .ok (.iconst 0, 1) := by decide +kernel
theorem dX5_playRounds_15 : decode cX5_playRounds 15 = .ok (.istore_n 1, 1) := by decide +kernel
theorem dX5_playRounds_16 : decode cX5_playRounds 16 = .ok (.iconst 0, 1) := by decide +kernel
theorem dX5_playRounds_17 : decode cX5_playRounds 17 = .ok (.istore_n 3, 1) := by decide +kernel
theorem dX5_playRounds_18 : decode cX5_playRounds 18 = .ok (.iload_n 3, 1) := by decide +kernel
theorem dX5_playRounds_19 : decode cX5_playRounds 19 = .ok (.aload_n 0, 1) := by decide +kernel
theorem dX5_playRounds_20 : decode cX5_playRounds 20 = .ok (.getfield 12, 3) := by decide +kernel
theorem dX5_playRounds_23 : decode cX5_playRounds 23 = .ok (.getfield 78, 3) := by decide +kernel
theorem dX5_playRounds_26 : decode cX5_playRounds 26 = .ok (.if_icmp .ge 58, 3) := by decide +kernel
theorem dX5_playRounds_29 : decode cX5_playRounds 29 = .ok (.aload_n 0, 1) := by decide +kernel
theorem dX5_playRounds_30 : decode cX5_playRounds 30 = .ok (.iload_n 3, 1) := by decide +kernel
theorem dX5_playRounds_31 : decode cX5_playRounds 31 = .ok (.iconst 1, 1) := by decide +kernel
theorem dX5_playRounds_32 : decode cX5_playRounds 32 = .ok (.invokevirtual 81, 3) := by decide +kernel
theorem dX5_playRounds_35 : decode cX5_playRounds 35 = .ok (.istore 4, 2) := by decide +kernel
theorem dX5_playRounds_37 : decode cX5_playRounds 37 = .ok (.iload_n 1, 1) := by decide +kernel
theorem dX5_playRounds_38 : decode cX5_playRounds 38 = .ok (.ifCond .ne 20, 3) := by decide +kernel
theorem dX5_playRounds_41 : decode cX5_playRounds 41 = .ok (.iload 4, 2) := by decide +kernel
theorem dX5_playRounds_43 : decode cX5_playRounds 43 = .ok (.aload_n 0, 1) := by decide +kernel
theorem dX5_playRounds_44 : decode cX5_playRounds 44 = .ok (.getfield 12, 3) := by decide +kernel
theorem dX5_playRounds_47 : decode cX5_playRounds 47 = .ok (.getfield 44, 3) := by decide +kernel
theorem dX5_playRounds_50 : decode cX5_playRounds 50 = .ok (.iload_n 3, 1) := by decide +kernel
theorem dX5_playRounds_51 : decode cX5_playRounds 51 = .ok (.aaload, 1) := by decide +kernel
theorem dX5_playRounds_52 : decode cX5_playRounds 52 = .ok (.getfield 66, 3) := by decide +kernel
theorem dX5_playRounds_55 : decode cX5_playRounds 55 = .ok (.if_icmp .eq 7, 3) := by decide +kernel
theorem dX5_playRounds_58 : decode cX5_playRounds 58 = .ok (.iconst 1, 1) := by decide +kernel
theorem dX5_playRounds_59 : decode cX5_playRounds 59 = .ok (.goto 4, 3) := by decide +kernel
theorem dX5_playRounds_62 : decode cX5_playRounds 62 = .ok (.iconst 0, 1) := by decide +kernel
theorem dX5_playRounds_63 : decode cX5_playRounds 63 = .ok (.istore_n 1, 1) := by decide +kernel
theorem dX5_playRounds_64 : decode cX5_playRounds 64 = .ok (.aload_n 0, 1) := by decide +kernel
theorem dX5_playRounds_65 : decode cX5_playRounds 65 = .ok (.getfield 12, 3) := by decide +kernel
theorem dX5_playRounds_68 : decode cX5_playRounds 68 = .ok (.getfield 44, 3) := by decide +kernel
theorem dX5_playRounds_71 : decode cX5_playRounds 71 = .ok (.iload_n 3, 1) := by decide +kernel
theorem dX5_playRounds_72 : decode cX5_playRounds 72 = .ok (.aaload, 1) := by decide +kernel
theorem dX5_playRounds_73 : decode cX5_playRounds 73 = .ok (.iload 4, 2) := by decide +kernel
theorem dX5_playRounds_75 : decode cX5_playRounds 75 = .ok (.putfield 66, 3) := by decide +kernel
theorem dX5_playRounds_78 : decode cX5_playRounds 78 = .ok (.iinc 3 1, 3) := by decide +kernel
theorem dX5_playRounds_81 : decode cX5_playRounds 81 = .ok (.goto (-63), 3) := by decide +kernel
theorem dX5_playRounds_84 : decode cX5_playRounds 84 = .ok (.iinc 2 1, 3) := by decide +kernel
theorem dX5_playRounds_87 : decode cX5_playRounds 87 = .ok (.goto (-83), 3) := by decide +kernel
theorem dX5_playRounds_90 : decode cX5_playRounds 90 = .ok (.iload_n 2, 1) := by decide +kernel
theorem dX5_playRounds_91 : decode cX5_playRounds 91 = .ok (.ireturn, 1) := by decide +kernel
theorem dX5_kindDigits_0 : decode cX5_kindDigits 0 = .ok (.iconst 0, 1) := by decide +kernel
theorem dX5_kindDigits_1 : decode cX5_kindDigits 1 = .ok (.istore_n 1, 1) := by decide +kernel
theorem dX5_kindDigits_2 : decode cX5_kindDigits 2 = .ok (.aload_n 0, 1) := by decide +kernel
theorem dX5_kindDigits_3 : decode cX5_kindDigits 3 = .ok (.getfield 12, 3) := by decide +kernel
theorem dX5_kindDigits_6 : decode cX5_kindDigits 6 = .ok (.getfield 78, 3) := by decide +kernel
theorem dX5_kindDigits_9 : decode cX5_kindDigits 9 = .ok (.iconst 1, 1) := by decide +kernel
theorem dX5_kindDigits_10 : decode cX5_kindDigits 10 = .ok (.isub, 1) := by decide +kernel
theorem dX5_kindDigits_11 : decode cX5_kindDigits 11 = .ok (.istore_n 2, 1) := by decide +kernel
theorem dX5_kindDigits_12 : decode cX5_kindDigits 12 = .ok (.iload_n 2, 1) := by decide +kernel
theorem dX5_kindDigits_13 : decode cX5_kindDigits 13 = .ok (.ifCond .lt 27, 3) := by decide +kernel
theorem dX5_kindDigits_16 : decode cX5_kindDigits 16 = .ok (.iload_n 1, 1) := by decide +kernel
theorem dX5_kindDigits_17 : decode cX5_kindDigits 17 = .ok (.bipush 10, 2) := by decide +kernel
theorem dX5_kindDigits_19 : decode cX5_kindDigits 19 = .ok (.imul, 1) := by decide +kernel
theorem dX5_kindDigits_20 : decode cX5_kindDigits 20 = .ok (.aload_n 0, 1) := by decide +kernel
theorem dX5_kindDigits_21 : decode cX5_kindDigits 21 = .ok (.getfield 12, 3) := by decide +kernel
theorem dX5_kindDigits_24 : decode cX5_kindDigits 24 = .ok (.getfield 44, 3) := by decide +kernel
theorem dX5_kindDigits_27 : decode cX5_kindDigits 27 = .ok (.iload_n 2, 1) := by decide +kernel
theorem dX5_kindDigits_28 : decode cX5_kindDigits 28 = .ok (.aaload, 1) := by decide +kernel
theorem dX5_kindDigits_29 : decode cX5_kindDigits 29 = .ok (.getfield 66, 3) := by decide +kernel
theorem dX5_kindDigits_32 : decode cX5_kindDigits 32 = .ok (.iadd, 1) := by decide +kernel
theorem dX5_kindDigits_33 : decode cX5_kindDigits 33 = .ok (.istore_n 1, 1) := by decide +kernel
theorem dX5_kindDigits_34 : decode cX5_kindDigits 34 = .ok (.iinc 2 (-1), 3) := by decide +kernel
theorem dX5_kindDigits_37 : decode cX5_kindDigits 37 = .ok (.goto (-25), 3) := by decide +kernel
theorem dX5_kindDigits_40 : decode cX5_kindDigits 40 = .ok (.iload_n 1, 1) := by decide +kernel
theorem dX5_kindDigits_41 : decode cX5_kindDigits 41 = .ok (.ireturn, 1) := by decide +kernel
set_option maxRecDepth 20000 in
theorem ggX5_lostByKinds_X5_costAnew : GoodIn wsX5_lostByKinds wsX5_costAnew := goodIn_r _ [14, 2, 15, 16, 17, 18, 19, 20, 21, 22, 23, 24, 25, 26, 27, 28, 29, 30, 31, 32, 33, 34, 35, 36, 37, 38, 39, 40, 41, 42, 43, 44, 45, 46, 47, 48, 49, 50, 51, 52, 53, 54, 55, 56, 57, 58, 59, 60, 61, 62, 63, 64, 65, 66, 67, 68, 69, 70, 71, 72, 73, 74, 75, 76, 77, 78, 79, 80, 81, 82, 83, 84, 85, 86, 87, 88, 89, 90, 91, 92, 93, 94, 95, 96, 97, 98, 99, 100, 101, 102, 103, 104, 105, 106, 107, 108, 109, 110, 111, 8, 112, 113, 7, 9, 114, 115, 116, 117, 118, 119, 120, 121, 122, 123, 124, 125, 126, 127, 128, 129, 130, 131, 132, 133, 134, 135, 136, 137, 138, 139, 140, 141, 142, 143, 144, 145, 146, 147, 148, 149, 150, 151, 152, 153, 154, 155, 156, 157, 158, 159, 160, 161, 162, 163, 164, 165, 166, 167, 168, 169, 170, 171, 172, 173, 174, 175, 176, 177, 178, 179, 180, 181, 182, 183, 184, 185] (by decide +kernel) (by decide +kernel)
set_option maxRecDepth 20000 in
theorem gX5_lostByKinds_X5_costAnew : GoodIn wsX5_lostByKinds (wsV RX5 72 RX5 yX5_costAnew wsX5_costAnew) := goodIn_app (goodIn_of _ (by decide +kernel)) ggX5_lostByKinds_X5_costAnew
theorem dX5_lostByKinds_0 : decode cX5_lostByKinds 0 = .ok (.aload_n 0, 1) := by decide +kernel
theorem dX5_lostByKinds_1 : decode cX5_lostByKinds 1 = .ok (.invokevirtual 72, 3) := by decide +kernel
theorem dX5_lostByKinds_4 : decode cX5_lostByKinds 4 = .ok (.istore_n 1, 1) := by decide +kernel
theorem dX5_lostByKinds_5 : decode cX5_lostByKinds 5 = .ok (.ldc 71, 2) := by decide +kernel
theorem dX5_lostByKinds_7 : decode cX5_lostByKinds 7 = .ok (.istore_n 2, 1) := by decide +kernel
theorem dX5_lostByKinds_8 : decode cX5_lostByKinds 8 = .ok (.iconst 0, 1) := by decide +kernel
theorem dX5_lostByKinds_9 : decode cX5_lostByKinds 9 = .ok (.istore_n 3, 1) := by decide +kernel
theorem dX5_lostByKinds_10 : decode cX5_lostByKinds 10 = .ok (.iload_n 3, 1) := by decide +kernel
theorem dX5_lostByKinds_11 : decode cX5_lostByKinds 11 = .ok (.bipush 7, 2) := by decide +kernel
theorem dX5_lostByKinds_13 : decode cX5_lostByKinds 13 = .ok (.if_icmp .ge 53, 3) := by decide +kernel
theorem dX5_lostByKinds_16 : decode cX5_lostByKinds 16 = .ok (.iconst 0, 1) := by decide +kernel
theorem dX5_lostByKinds_17 : decode cX5_lostByKinds 17 = .ok (.istore 4, 2) := by decide +kernel
theorem dX5_lostByKinds_19 : decode cX5_lostByKinds 19 = .ok (.iload 4, 2) := by decide +kernel
theorem dX5_lostByKinds_21 : decode cX5_lostByKinds 21 = .ok (.aload_n 0, 1) := by decide +kernel
theorem dX5_lostByKinds_22 : decode cX5_lostByKinds 22 = .ok (.getfield 12, 3) := by decide +kernel
theorem dX5_lostByKinds_25 : decode cX5_lostByKinds 25 = .ok (.getfield 78, 3) := by decide +kernel
theorem dX5_lostByKinds_28 : decode cX5_lostByKinds 28 = .ok (.if_icmp .ge 23, 3) := by decide +kernel
theorem dX5_lostByKinds_31 : decode cX5_lostByKinds 31 = .ok (.aload_n 0, 1) := by decide +kernel
theorem dX5_lostByKinds_32 : decode cX5_lostByKinds 32 = .ok (.getfield 12, 3) := by decide +kernel
theorem dX5_lostByKinds_35 : decode cX5_lostByKinds 35 = .ok (.getfield 44, 3) := by decide +kernel
theorem dX5_lostByKinds_38 : decode cX5_lostByKinds 38 = .ok (.iload 4, 2) := by decide +kernel
theorem dX5_lostByKinds_40 : decode cX5_lostByKinds 40 = .ok (.aaload, 1) := by decide +kernel
theorem dX5_lostByKinds_41 : decode cX5_lostByKinds 41 = .ok (.iload_n 3, 1) := by decide +kernel
theorem dX5_lostByKinds_42 : decode cX5_lostByKinds 42 = .ok (.putfield 66, 3) := by decide +kernel
theorem dX5_lostByKinds_45 : decode cX5_lostByKinds 45 = .ok (.iinc 4 1, 3) := by decide +kernel
theorem dX5_lostByKinds_48 : decode cX5_lostByKinds 48 = .ok (.goto (-29), 3) := by decide +kernel
theorem dX5_lostByKinds_51 : decode cX5_lostByKinds 51 = .ok (.iload_n 2, 1) := by decide +kernel
theorem dX5_lostByKinds_52 : decode cX5_lostByKinds 52 = .ok (.aload_n 0, 1) := by decide +kernel
theorem dX5_lostByKinds_53 : decode cX5_lostByKinds 53 = .ok (.invokevirtual 72, 3) := by decide +kernel
theorem dX5_lostByKinds_56 : decode cX5_lostByKinds 56 = .ok (.invokestatic 85, 3) := by decide +kernel
theorem dX5_lostByKinds_59 : decode cX5_lostByKinds 59 = .ok (.istore_n 2, 1) := by decide +kernel
theorem dX5_lostByKinds_60 : decode cX5_lostByKinds 60 = .ok (.iinc 3 1, 3) := by decide +kernel
theorem dX5_lostByKinds_63 : decode cX5_lostByKinds 63 = .ok (.goto (-53), 3) := by decide +kernel
theorem dX5_lostByKinds_66 : decode cX5_lostByKinds 66 = .ok (.iload_n 1, 1) := by decide +kernel
theorem dX5_lostByKinds_67 : decode cX5_lostByKinds 67 = .ok (.iload_n 2, 1) := by decide +kernel
theorem dX5_lostByKinds_68 : decode cX5_lostByKinds 68 = .ok (.isub, 1) := by decide +kernel
theorem dX5_lostByKinds_69 : decode cX5_lostByKinds 69 = .ok (.ireturn, 1) := by decide +kernel
set_option maxRecDepth 20000 in
theorem ggX5_bestMark_X5_costAnew : GoodIn wsX5_bestMark wsX5_costAnew := goodIn_r _ [8, 2, 9, 10, 11, 12, 13, 14, 15, 16, 17, 18, 19, 20, 21, 22, 23, 24, 25, 26, 27, 28, 29, 30, 31, 32, 33, 34, 35, 36, 37, 38, 39, 40, 41, 42, 43, 44, 45, 46, 47, 48, 49, 50, 51, 52, 53, 54, 55, 56, 57, 58, 59, 60, 61, 62, 63, 64, 65, 66, 67, 68, 69, 70, 71, 72, 73, 74, 75, 76, 77, 78, 79, 80, 81, 82, 83, 84, 85, 86, 87, 88, 89, 90, 91, 92, 93, 94, 95, 96, 97, 98, 99, 100, 101, 102, 103, 104, 105, 106, 107, 108, 109, 110, 111, 112, 113, 114, 115, 116, 117, 118, 119, 120, 121, 122, 123, 124, 125, 126, 127, 128, 129, 130, 131, 132, 133, 134, 135, 136, 137, 138, 139, 140, 141, 142, 143, 144, 145, 146, 147, 148, 149, 150, 151, 152, 153, 154, 155, 156, 157, 158, 159, 160, 161, 162, 163, 164, 165, 166, 167, 168, 169, 170, 171, 172, 173, 174, 175, 176, 177, 178, 179, 180, 181, 182] (by decide +kernel) (by decide +kernel)
set_option maxRecDepth 20000 in
theorem gX5_bestMark_X5_costAnew : GoodIn wsX5_bestMark (wsV RX5 72 RX5 yX5_costAnew wsX5_costAnew) := goodIn_app (goodIn_of _ (by decide +kernel)) ggX5_bestMark_X5_costAnew
theorem dX5_bestMark_0 : decode cX5_bestMark 0 = .ok (.iconst 0, 1) := by decide +kernel
theorem dX5_bestMark_1 : decode cX5_bestMark 1 = .ok (.istore_n 2, 1) := by decide +kernel
theorem dX5_bestMark_2 : decode cX5_bestMark 2 = .ok (.ldc 71, 2) := by decide +kernel
theorem dX5_bestMark_4 : decode cX5_bestMark 4 = .ok (.istore_n 3, 1) := by decide +kernel
theorem dX5_bestMark_5 : decode cX5_bestMark 5 = .ok (.iconst 0, 1) := by decide +kernel
theorem dX5_bestMark_6 : decode cX5_bestMark 6 = .ok (.istore 4, 2) := by decide +kernel
theorem dX5_bestMark_8 : decode cX5_bestMark 8 = .ok (.iload 4, 2) := by decide +kernel
theorem dX5_bestMark_10 : decode cX5_bestMark 10 = .ok (.aload_n 0, 1) := by decide +kernel
theorem dX5_bestMark_11 : decode cX5_bestMark 11 = .ok (.getfield 12, 3) := by decide +kernel
theorem dX5_bestMark_14 : decode cX5_bestMark 14 = .ok (.getfield 91, 3) := by decide +kernel
theorem dX5_bestMark_17 : decode cX5_bestMark 17 = .ok (.iconst 0, 1) := by decide +kernel
theorem dX5_bestMark_18 : decode cX5_bestMark 18 = .ok (.iaload, 1) := by decide +kernel
theorem dX5_bestMark_19 : decode cX5_bestMark 19 = .ok (.if_icmp .gt 39, 3) := by decide +kernel
theorem dX5_bestMark_22 : decode cX5_bestMark 22 = .ok (.aload_n 0, 1) := by decide +kernel
theorem dX5_bestMark_23 : decode cX5_bestMark 23 = .ok (.getfield 12, 3) := by decide +kernel
theorem dX5_bestMark_26 : decode cX5_bestMark 26 = .ok (.getfield 91, 3) := by decide +kernel
theorem dX5_bestMark_29 : decode cX5_bestMark 29 = .ok (.bipush 6, 2) := by decide +kernel
theorem dX5_bestMark_31 : decode cX5_bestMark 31 = .ok (.iload 4, 2) := by decide +kernel
theorem dX5_bestMark_33 : decode cX5_bestMark 33 = .ok (.iastore, 1) := by decide +kernel
theorem dX5_bestMark_34 : decode cX5_bestMark 34 = .ok (.aload_n 0, 1) := by decide +kernel
theorem dX5_bestMark_35 : decode cX5_bestMark 35 = .ok (.invokevirtual 72, 3) := by decide +kernel
theorem dX5_bestMark_38 : decode cX5_bestMark 38 = .ok (.istore 5, 2) := by decide +kernel
theorem dX5_bestMark_40 : decode cX5_bestMark 40 = .ok (.iload 5, 2) := by decide +kernel
theorem dX5_bestMark_42 : decode cX5_bestMark 42 = .ok (.iload_n 3, 1) := by decide +kernel
theorem dX5_bestMark_43 : decode cX5_bestMark 43 = .ok (.if_icmp .ge 9, 3) := by decide +kernel
theorem dX5_bestMark_46 : decode cX5_bestMark 46 = .ok (.iload 5, 2) := by decide +kernel
theorem dX5_bestMark_48 : decode cX5_bestMark 48 = .ok (.istore_n 3, 1) := by decide +kernel
theorem dX5_bestMark_49 : decode cX5_bestMark 49 = .ok (.iload 4, 2) := by decide +kernel
theorem dX5_bestMark_51 : decode cX5_bestMark 51 = .ok (.istore_n 2, 1) := by decide +kernel
theorem dX5_bestMark_52 : decode cX5_bestMark 52 = .ok (.iinc 4 1, 3) := by decide +kernel
theorem dX5_bestMark_55 : decode cX5_bestMark 55 = .ok (.goto (-47), 3) := by decide +kernel
theorem dX5_bestMark_58 : decode cX5_bestMark 58 = .ok (.iload_n 1, 1) := by decide +kernel
theorem dX5_bestMark_59 : decode cX5_bestMark 59 = .ok (.ifCond .eq 7, 3) := by decide +kernel
theorem dX5_bestMark_62 : decode cX5_bestMark 62 = .ok (.iload_n 2, 1) := by decide +kernel
theorem dX5_bestMark_63 : decode cX5_bestMark 63 = .ok (.goto 4, 3) := by decide +kernel
theorem dX5_bestMark_66 : decode cX5_bestMark 66 = .ok (.iload_n 3, 1) := by decide +kernel
theorem dX5_bestMark_67 : decode cX5_bestMark 67 = .ok (.ireturn, 1) := by decide +kernel
set_option maxRecDepth 20000 in
theorem ggX5_savedBySecond_X5_costAnew : GoodIn wsX5_savedBySecond wsX5_costAnew := goodIn_r _ [7, 1, 8, 9, 10, 11, 12, 13, 14, 15, 16, 17, 18, 19, 20, 21, 22, 23, 24, 25, 26, 27, 28, 29, 30, 31, 32, 33, 34, 35, 36, 37, 38, 39, 40, 41, 42, 43, 44, 45, 46, 47, 48, 49, 50, 51, 52, 53, 54, 55, 56, 57, 58, 59, 60, 61, 62, 63, 64, 65, 66, 67, 68, 69, 70, 71, 72, 73, 74, 75, 76, 77, 78, 79, 80, 81, 82, 83, 84, 85, 86, 87, 88, 89, 90, 91, 92, 93, 94, 95, 96, 97, 98, 99, 100, 101, 102, 103, 104, 105, 106, 107, 108, 109, 110, 111, 112, 113, 114, 115, 116, 117, 118, 119, 120, 121, 122, 123, 124, 125, 126, 127, 128, 129, 130, 131, 132, 133, 134, 135, 136, 137, 138, 139, 140, 141, 142, 143, 144, 145, 146, 147, 148, 149, 150, 151, 152, 153, 154, 155, 156, 157, 158, 159, 160, 161, 162, 163, 164, 165, 166, 167, 168, 169, 170, 171, 172, 173, 174, 175, 176, 177, 178, 179, 180, 181] (by decide +kernel) (by decide +kernel)
set_option maxRecDepth 20000 in
theorem gX5_savedBySecond_X5_costAnew : GoodIn wsX5_savedBySecond (wsV RX5 72 RX5 yX5_costAnew wsX5_costAnew) := goodIn_app (goodIn_of _ (by decide +kernel)) ggX5_savedBySecond_X5_costAnew
theorem dX5_savedBySecond_0 : decode cX5_savedBySecond 0 = .ok (.aload_n 0, 1) := by decide +kernel
theorem dX5_savedBySecond_1 : decode cX5_savedBySecond 1 = .ok (.getfield 12, 3) := by decide +kernel
theorem dX5_savedBySecond_4 : decode cX5_savedBySecond 4 = .ok (.getfield 91, 3) := by decide +kernel
theorem dX5_savedBySecond_7 : decode cX5_savedBySecond 7 = .ok (.bipush 7, 2) := by decide +kernel
theorem dX5_savedBySecond_9 : decode cX5_savedBySecond 9 = .ok (.iconst 1, 1) := by decide +kernel
theorem dX5_savedBySecond_10 : decode cX5_savedBySecond 10 = .ok (.iastore, 1) := by decide +kernel
theorem dX5_savedBySecond_11 : decode cX5_savedBySecond 11 = .ok (.aload_n 0, 1) := by decide +kernel
theorem dX5_savedBySecond_12 : decode cX5_savedBySecond 12 = .ok (.invokevirtual 72, 3) := by decide +kernel
theorem dX5_savedBySecond_15 : decode cX5_savedBySecond 15 = .ok (.istore_n 1, 1) := by decide +kernel
theorem dX5_savedBySecond_16 : decode cX5_savedBySecond 16 = .ok (.aload_n 0, 1) := by decide +kernel
theorem dX5_savedBySecond_17 : decode cX5_savedBySecond 17 = .ok (.getfield 12, 3) := by decide +kernel
theorem dX5_savedBySecond_20 : decode cX5_savedBySecond 20 = .ok (.getfield 91, 3) := by decide +kernel
theorem dX5_savedBySecond_23 : decode cX5_savedBySecond 23 = .ok (.bipush 7, 2) := by decide +kernel
theorem dX5_savedBySecond_25 : decode cX5_savedBySecond 25 = .ok (.iconst 2, 1) := by decide +kernel
theorem dX5_savedBySecond_26 : decode cX5_savedBySecond 26 = .ok (.iastore, 1) := by decide +kernel
theorem dX5_savedBySecond_27 : decode cX5_savedBySecond 27 = .ok (.iload_n 1, 1) := by decide +kernel
theorem dX5_savedBySecond_28 : decode cX5_savedBySecond 28 = .ok (.aload_n 0, 1) := by decide +kernel
theorem dX5_savedBySecond_29 : decode cX5_savedBySecond 29 = .ok (.invokevirtual 72, 3) := by decide +kernel
theorem dX5_savedBySecond_32 : decode cX5_savedBySecond 32 = .ok (.isub, 1) := by decide +kernel
theorem dX5_savedBySecond_33 : decode cX5_savedBySecond 33 = .ok (.ireturn, 1) := by decide +kernel
set_option maxRecDepth 20000 in
theorem ggX5_comerToFollow_X1_become : GoodIn wsX5_comerToFollow wsX1_become := goodIn_r _ [11, 12, 13, 180, 181, 182, 183, 184, 185, 186] (by decide +kernel) (by decide +kernel)
set_option maxRecDepth 20000 in
theorem gX5_comerToFollow_X1_become : GoodIn wsX5_comerToFollow (wsV RX5 98 RX1 yX1_become wsX1_become) := goodIn_app (goodIn_of _ (by decide +kernel)) ggX5_comerToFollow_X1_become
set_option maxRecDepth 20000 in
theorem ggX5_comerToFollow_X5_costAnew : GoodIn wsX5_comerToFollow wsX5_costAnew := goodIn_r _ [18, 4, 19, 20, 21, 22, 23, 24, 25, 26, 27, 28, 29, 30, 31, 32, 33, 34, 35, 36, 37, 38, 39, 40, 41, 42, 43, 44, 45, 46, 47, 48, 49, 50, 51, 52, 53, 54, 55, 56, 57, 58, 59, 60, 61, 62, 63, 64, 65, 66, 67, 68, 69, 70, 71, 72, 73, 74, 75, 76, 77, 78, 79, 80, 81, 82, 83, 84, 85, 86, 87, 88, 89, 90, 91, 92, 93, 94, 95, 96, 97, 98, 99, 100, 101, 102, 103, 104, 105, 106, 107, 108, 109, 110, 111, 112, 113, 114, 115, 116, 117, 118, 119, 120, 121, 122, 123, 124, 125, 126, 127, 128, 129, 130, 131, 132, 133, 134, 135, 136, 137, 138, 139, 140, 141, 142, 143, 144, 145, 146, 147, 148, 149, 150, 151, 152, 153, 154, 155, 156, 157, 158, 159, 160, 10, 161, 162, 163, 164, 165, 166, 167, 168, 169, 178, 179, 170, 171, 172, 173, 174, 175, 176, 177, 180, 181, 182, 183, 184, 185, 186, 187, 188, 189, 190, 191] (by decide +kernel) (by decide +kernel)
set_option maxRecDepth 20000 in
theorem gX5_comerToFollow_X5_costAnew : GoodIn wsX5_comerToFollow (wsV RX5 72 RX5 yX5_costAnew wsX5_costAnew) := goodIn_app (goodIn_of _ (by decide +kernel)) ggX5_comerToFollow_X5_costAnew
theorem dX5_comerToFollow_0 : decode cX5_comerToFollow 0 = .ok (.bipush (-9), 2) := by decide +kernel
theorem dX5_comerToFollow_2 : decode cX5_comerToFollow 2 = .ok (.istore_n 2, 1) := by decide +kernel
theorem dX5_comerToFollow_3 : decode cX5_comerToFollow 3 = .ok (.ldc 71, 2) := by decide +kernel
theorem dX5_comerToFollow_5 : decode cX5_comerToFollow 5 = .ok (.istore_n 3, 1) := by decide +kernel
theorem dX5_comerToFollow_6 : decode cX5_comerToFollow 6 = .ok (.iconst 0, 1) := by decide +kernel
theorem dX5_comerToFollow_7 : decode cX5_comerToFollow 7 = .ok (.istore 4, 2) := by decide +kernel
theorem dX5_comerToFollow_9 : decode cX5_comerToFollow 9 = .ok (.iload 4, 2) := by decide +kernel
theorem dX5_comerToFollow_11 : decode cX5_comerToFollow 11 = .ok (.aload_n 1, 1) := by decide +kernel
theorem dX5_comerToFollow_12 : decode cX5_comerToFollow 12 = .ok (.getfield 78, 3) := by decide +kernel
theorem dX5_comerToFollow_15 : decode cX5_comerToFollow 15 = .ok (.if_icmp .ge 80, 3) := by decide +kernel
theorem dX5_comerToFollow_18 : decode cX5_comerToFollow 18 = .ok (.aload_n 1, 1) := by decide +kernel
theorem dX5_comerToFollow_19 : decode cX5_comerToFollow 19 = .ok (.getfield 44, 3) := by decide +kernel
theorem dX5_comerToFollow_22 : decode cX5_comerToFollow 22 = .ok (.iload 4, 2) := by decide +kernel
theorem dX5_comerToFollow_24 : decode cX5_comerToFollow 24 = .ok (.aaload, 1) := by decide +kernel
theorem dX5_comerToFollow_25 : decode cX5_comerToFollow 25 = .ok (.astore 5, 2) := by decide +kernel
theorem dX5_comerToFollow_27 : decode cX5_comerToFollow 27 = .ok (.iconst 0, 1) := by decide +kernel
theorem dX5_comerToFollow_28 : decode cX5_comerToFollow 28 = .ok (.istore 6, 2) := by decide +kernel
theorem dX5_comerToFollow_30 : decode cX5_comerToFollow 30 = .ok (.iload 6, 2) := by decide +kernel
theorem dX5_comerToFollow_32 : decode cX5_comerToFollow 32 = .ok (.aload_n 0, 1) := by decide +kernel
theorem dX5_comerToFollow_33 : decode cX5_comerToFollow 33 = .ok (.getfield 12, 3) := by decide +kernel
theorem dX5_comerToFollow_36 : decode cX5_comerToFollow 36 = .ok (.getfield 78, 3) := by decide +kernel
theorem dX5_comerToFollow_39 : decode cX5_comerToFollow 39 = .ok (.if_icmp .ge 32, 3) := by decide +kernel
theorem dX5_comerToFollow_42 : decode cX5_comerToFollow 42 = .ok (.aload_n 0, 1) := by decide +kernel
theorem dX5_comerToFollow_43 : decode cX5_comerToFollow 43 = .ok (.getfield 12, 3) := by decide +kernel
theorem dX5_comerToFollow_46 : decode cX5_comerToFollow 46 = .ok (.getfield 44, 3) := by decide +kernel
theorem dX5_comerToFollow_49 : decode cX5_comerToFollow 49 = .ok (.iload 6, 2) := by decide +kernel
theorem dX5_comerToFollow_51 : decode cX5_comerToFollow 51 = .ok (.aaload, 1) := by decide +kernel
theorem dX5_comerToFollow_52 : decode cX5_comerToFollow 52 = .ok (.aload 5, 2) := by decide +kernel
theorem dX5_comerToFollow_54 : decode cX5_comerToFollow 54 = .ok (.getfield 66, 3) := by decide +kernel
theorem dX5_comerToFollow_57 : decode cX5_comerToFollow 57 = .ok (.aload 5, 2) := by decide +kernel
theorem dX5_comerToFollow_59 : decode cX5_comerToFollow 59 = .ok (.getfield 95, 3) := by decide +kernel
theorem dX5_comerToFollow_62 : decode cX5_comerToFollow 62 = .ok (.invokevirtual 98, 3) := by decide +kernel
theorem dX5_comerToFollow_65 : decode cX5_comerToFollow 65 = .ok (.iinc 6 1, 3) := by decide +kernel
theorem dX5_comerToFollow_68 : decode cX5_comerToFollow 68 = .ok (.goto (-38), 3) := by decide +kernel
theorem dX5_comerToFollow_71 : decode cX5_comerToFollow 71 = .ok (.aload_n 0, 1) := by decide +kernel
theorem dX5_comerToFollow_72 : decode cX5_comerToFollow 72 = .ok (.invokevirtual 72, 3) := by decide +kernel
theorem dX5_comerToFollow_75 : decode cX5_comerToFollow 75 = .ok (.istore 6, 2) := by decide +kernel
theorem dX5_comerToFollow_77 : decode cX5_comerToFollow 77 = .ok (.iload 6, 2) := by decide +kernel
theorem dX5_comerToFollow_79 : decode cX5_comerToFollow 79 = .ok (.iload_n 3, 1) := by decide +kernel
theorem dX5_comerToFollow_80 : decode cX5_comerToFollow 80 = .ok (.if_icmp .ge 9, 3) := by decide +kernel
theorem dX5_comerToFollow_83 : decode cX5_comerToFollow 83 = .ok (.iload 6, 2) := by decide +kernel
theorem dX5_comerToFollow_85 : decode cX5_comerToFollow 85 = .ok (.istore_n 3, 1) := by decide +kernel
theorem dX5_comerToFollow_86 : decode cX5_comerToFollow 86 = .ok (.iload 4, 2) := by decide +kernel
theorem dX5_comerToFollow_88 : decode cX5_comerToFollow 88 = .ok (.istore_n 2, 1) := by decide +kernel
theorem dX5_comerToFollow_89 : decode cX5_comerToFollow 89 = .ok (.iinc 4 1, 3) := by decide +kernel
theorem dX5_comerToFollow_92 : decode cX5_comerToFollow 92 = .ok (.goto (-83), 3) := by decide +kernel
theorem dX5_comerToFollow_95 : decode cX5_comerToFollow 95 = .ok (.iload_n 2, 1) := by decide +kernel
theorem dX5_comerToFollow_96 : decode cX5_comerToFollow 96 = .ok (.ireturn, 1) := by decide +kernel
set_option maxRecDepth 20000 in
theorem ggX5_firstOtherLevel_X2_pass : GoodIn wsX5_firstOtherLevel wsX2_pass := goodIn_r _ [8, 9, 10, 11, 7, 12, 13, 14, 15, 16, 17, 18, 19, 20, 21, 22, 23, 24, 25, 26, 27, 28, 29, 30, 31, 32, 33, 34, 35, 36, 37, 38, 39, 40, 41, 42, 43, 44, 45, 46, 47, 48, 49, 50, 51, 52, 53, 54, 55, 56, 57, 58, 59, 60, 61, 62, 63, 64, 65, 66, 67, 68, 69, 70, 71, 72, 73, 74, 75, 76, 77, 78, 79, 80, 81, 82, 83, 84, 85, 86, 87, 88, 89, 90, 91, 92, 93, 94, 95, 96, 97, 98, 99, 100, 101, 102, 103, 104, 105, 106, 107, 108, 109, 110, 111, 112, 113, 114, 115, 116, 117, 118, 119, 120, 121, 122, 123, 124, 125, 126, 127, 128, 129, 130, 133, 134, 135, 136, 137, 138, 139, 140, 146, 147, 148, 149, 150, 151, 152, 141, 142, 143, 144, 145] (by decide +kernel) (by decide +kernel)
set_option maxRecDepth 20000 in
theorem gX5_firstOtherLevel_X2_pass : GoodIn wsX5_firstOtherLevel (wsV RX5 26 RX2 yX2_pass wsX2_pass) := goodIn_app (goodIn_of _ (by decide +kernel)) ggX5_firstOtherLevel_X2_pass
theorem dX5_firstOtherLevel_0 : decode cX5_firstOtherLevel 0 = .ok (.iconst 0, 1) := by decide +kernel
theorem dX5_firstOtherLevel_1 : decode cX5_firstOtherLevel 1 = .ok (.istore_n 3, 1) := by decide +kernel
theorem dX5_firstOtherLevel_2 : decode cX5_firstOtherLevel 2 = .ok (.iload_n 3, 1) := by decide +kernel
theorem dX5_firstOtherLevel_3 : decode cX5_firstOtherLevel 3 = .ok (.iload_n 2, 1) := by decide +kernel
theorem dX5_firstOtherLevel_4 : decode cX5_firstOtherLevel 4 = .ok (.if_icmp .ge 43, 3) := by decide +kernel
theorem dX5_firstOtherLevel_7 : decode cX5_firstOtherLevel 7 = .ok (.iload_n 3, 1) := by decide +kernel
theorem dX5_firstOtherLevel_8 : decode cX5_firstOtherLevel 8 = .ok (.aload_n 1, 1) := by decide +kernel
theorem dX5_firstOtherLevel_9 : decode cX5_firstOtherLevel 9 = .ok (.arraylength, 1) := by decide +kernel
theorem dX5_firstOtherLevel_10 : decode cX5_firstOtherLevel 10 = .ok (.if_icmp .ge 37, 3) := by decide +kernel
theorem dX5_firstOtherLevel_13 : decode cX5_firstOtherLevel 13 = .ok (.aload_n 0, 1) := by decide +kernel
theorem dX5_firstOtherLevel_14 : decode cX5_firstOtherLevel 14 = .ok (.getfield 12, 3) := by decide +kernel
theorem dX5_firstOtherLevel_17 : decode cX5_firstOtherLevel 17 = .ok (.iconst 1, 1) := by decide +kernel
theorem dX5_firstOtherLevel_18 : decode cX5_firstOtherLevel 18 = .ok (.invokevirtual 26, 3) := by decide +kernel
theorem dX5_firstOtherLevel_21 : decode cX5_firstOtherLevel 21 = .ok (.aload_n 0, 1) := by decide +kernel
theorem dX5_firstOtherLevel_22 : decode cX5_firstOtherLevel 22 = .ok (.getfield 12, 3) := by decide +kernel
theorem dX5_firstOtherLevel_25 : decode cX5_firstOtherLevel 25 = .ok (.getfield 102, 3) := by decide +kernel
theorem dX5_firstOtherLevel_28 : decode cX5_firstOtherLevel 28 = .ok (.iconst 0, 1) := by decide +kernel
theorem dX5_firstOtherLevel_29 : decode cX5_firstOtherLevel 29 = .ok (.aaload, 1) := by decide +kernel
theorem dX5_firstOtherLevel_30 : decode cX5_firstOtherLevel 30 = .ok (.getfield 106, 3) := by decide +kernel
theorem dX5_firstOtherLevel_33 : decode cX5_firstOtherLevel 33 = .ok (.aload_n 1, 1) := by decide +kernel
theorem dX5_firstOtherLevel_34 : decode cX5_firstOtherLevel 34 = .ok (.iload_n 3, 1) := by decide +kernel
theorem dX5_firstOtherLevel_35 : decode cX5_firstOtherLevel 35 = .ok (.iaload, 1) := by decide +kernel
theorem dX5_firstOtherLevel_36 : decode cX5_firstOtherLevel 36 = .ok (.if_icmp .eq 5, 3) := by decide +kernel
theorem dX5_firstOtherLevel_39 : decode cX5_firstOtherLevel 39 = .ok (.iload_n 3, 1) := by decide +kernel
theorem dX5_firstOtherLevel_40 : decode cX5_firstOtherLevel 40 = .ok (.ireturn, 1) := by decide +kernel
theorem dX5_firstOtherLevel_41 : decode cX5_firstOtherLevel 41 = .ok (.iinc 3 1, 3) := by decide +kernel
theorem dX5_firstOtherLevel_44 : decode cX5_firstOtherLevel 44 = .ok (.goto (-42), 3) := by decide +kernel
theorem dX5_firstOtherLevel_47 : decode cX5_firstOtherLevel 47 = .ok (.bipush (-9), 2) := by decide +kernel
theorem dX5_firstOtherLevel_49 : decode cX5_firstOtherLevel 49 = .ok (.ireturn, 1) := by decide +kernel
set_option maxRecDepth 20000 in
theorem ggX5_drawnDays_X5_draw : GoodIn wsX5_drawnDays wsX5_draw := goodIn_r _ [10, 1, 11, 12, 13, 171, 172] (by decide +kernel) (by decide +kernel)
set_option maxRecDepth 20000 in
theorem gX5_drawnDays_X5_draw : GoodIn wsX5_drawnDays (wsV RX5 114 RX5 yX5_draw wsX5_draw) := goodIn_app (goodIn_of _ (by decide +kernel)) ggX5_drawnDays_X5_draw
set_option maxRecDepth 20000 in
theorem ggX5_drawnDays_X5_costAnew : GoodIn wsX5_drawnDays wsX5_costAnew := goodIn_r _ [17, 2, 18, 19, 20, 21, 22, 23, 24, 25, 26, 27, 28, 29, 30, 31, 32, 33, 34, 35, 36, 37, 38, 39, 40, 41, 42, 43, 44, 45, 46, 47, 48, 49, 50, 51, 52, 53, 54, 55, 56, 57, 58, 59, 60, 61, 62, 63, 64, 65, 66, 67, 68, 69, 70, 71, 72, 73, 74, 75, 76, 77, 78, 79, 80, 81, 82, 83, 84, 85, 86, 87, 88, 89, 90, 91, 92, 93, 94, 95, 96, 97, 98, 99, 100, 101, 102, 103, 104, 105, 106, 107, 108, 109, 110, 111, 112, 113, 114, 115, 116, 117, 118, 119, 120, 121, 122, 123, 124, 125, 126, 127, 128, 129, 130, 131, 132, 133, 134, 135, 136, 137, 138, 139, 140, 141, 142, 143, 144, 145, 146, 147, 148, 149, 150, 151, 152, 153, 154, 155, 156, 157, 158, 159, 160, 161, 162, 163, 164, 165, 166, 167, 168, 169, 171, 172, 173, 174, 175, 176, 177, 178, 179, 180, 181, 182, 183, 184, 185, 186, 187, 188, 189, 190, 191, 192] (by decide +kernel) (by decide +kernel)
set_option maxRecDepth 20000 in
theorem gX5_drawnDays_X5_costAnew : GoodIn wsX5_drawnDays (wsV RX5 72 RX5 yX5_costAnew wsX5_costAnew) := goodIn_app (goodIn_of _ (by decide +kernel)) ggX5_drawnDays_X5_costAnew
set_option maxRecDepth 20000 in
theorem ggX5_drawnDays_X2_comersWith : GoodIn wsX5_drawnDays wsX2_comersWith := goodIn_r _ [45, 25, 26, 27, 173, 174, 175, 176, 177, 178, 179, 180, 181, 182, 183, 184, 185, 186, 187] (by decide +kernel) (by decide +kernel)
set_option maxRecDepth 20000 in
theorem gX5_drawnDays_X2_comersWith : GoodIn wsX5_drawnDays (wsV RX5 34 RX2 yX2_comersWith wsX2_comersWith) := goodIn_app (goodIn_of _ (by decide +kernel)) ggX5_drawnDays_X2_comersWith
theorem dX5_drawnDays_0 : decode cX5_drawnDays 0 = .ok (.aload_n 0, 1) := by decide +kernel
theorem dX5_drawnDays_1 : decode cX5_drawnDays 1 = .ok (.iload_n 2, 1) := by decide +kernel
theorem dX5_drawnDays_2 : decode cX5_drawnDays 2 = .ok (.putfield 111, 3) := by decide +kernel
theorem dX5_drawnDays_5 : decode cX5_drawnDays 5 = .ok (.iconst 0, 1) := by decide +kernel
theorem dX5_drawnDays_6 : decode cX5_drawnDays 6 = .ok (.istore 4, 2) := by decide +kernel
theorem dX5_drawnDays_8 : decode cX5_drawnDays 8 = .ok (.iconst 0, 1) := by decide +kernel
theorem dX5_drawnDays_9 : decode cX5_drawnDays 9 = .ok (.istore 5, 2) := by decide +kernel
theorem dX5_drawnDays_11 : decode cX5_drawnDays 11 = .ok (.iconst 0, 1) := by decide +kernel
theorem dX5_drawnDays_12 : decode cX5_drawnDays 12 = .ok (.istore 6, 2) := by decide +kernel
theorem dX5_drawnDays_14 : decode cX5_drawnDays 14 = .ok (.iload 6, 2) := by decide +kernel
theorem dX5_drawnDays_16 : decode cX5_drawnDays 16 = .ok (.iload_n 1, 1) := by decide +kernel
theorem dX5_drawnDays_17 : decode cX5_drawnDays 17 = .ok (.if_icmp .ge 71, 3) := by decide +kernel
theorem dX5_drawnDays_20 : decode cX5_drawnDays 20 = .ok (.iconst 0, 1) := by decide +kernel
theorem dX5_drawnDays_21 : decode cX5_drawnDays 21 = .ok (.istore 7, 2) := by decide +kernel
theorem dX5_drawnDays_23 : decode cX5_drawnDays 23 = .ok (.iload 7, 2) := by decide +kernel
theorem dX5_drawnDays_25 : decode cX5_drawnDays 25 = .ok (.aload_n 0, 1) := by decide +kernel
theorem dX5_drawnDays_26 : decode cX5_drawnDays 26 = .ok (.getfield 12, 3) := by decide +kernel
theorem dX5_drawnDays_29 : decode cX5_drawnDays 29 = .ok (.getfield 78, 3) := by decide +kernel
theorem dX5_drawnDays_32 : decode cX5_drawnDays 32 = .ok (.if_icmp .ge 28, 3) := by decide +kernel
theorem dX5_drawnDays_35 : decode cX5_drawnDays 35 = .ok (.aload_n 0, 1) := by decide +kernel
theorem dX5_drawnDays_36 : decode cX5_drawnDays 36 = .ok (.getfield 12, 3) := by decide +kernel
theorem dX5_drawnDays_39 : decode cX5_drawnDays 39 = .ok (.getfield 44, 3) := by decide +kernel
theorem dX5_drawnDays_42 : decode cX5_drawnDays 42 = .ok (.iload 7, 2) := by decide +kernel
theorem dX5_drawnDays_44 : decode cX5_drawnDays 44 = .ok (.aaload, 1) := by decide +kernel
theorem dX5_drawnDays_45 : decode cX5_drawnDays 45 = .ok (.aload_n 0, 1) := by decide +kernel
theorem dX5_drawnDays_46 : decode cX5_drawnDays 46 = .ok (.bipush 120, 2) := by decide +kernel
theorem dX5_drawnDays_48 : decode cX5_drawnDays 48 = .ok (.invokevirtual 114, 3) := by decide +kernel
theorem dX5_drawnDays_51 : decode cX5_drawnDays 51 = .ok (.putfield 117, 3) := by decide +kernel
theorem dX5_drawnDays_54 : decode cX5_drawnDays 54 = .ok (.iinc 7 1, 3) := by decide +kernel
theorem dX5_drawnDays_57 : decode cX5_drawnDays 57 = .ok (.goto (-34), 3) := by decide +kernel
theorem dX5_drawnDays_60 : decode cX5_drawnDays 60 = .ok (.iload 4, 2) := by decide +kernel
theorem dX5_drawnDays_62 : decode cX5_drawnDays 62 = .ok (.aload_n 0, 1) := by decide +kernel
theorem dX5_drawnDays_63 : decode cX5_drawnDays 63 = .ok (.invokevirtual 72, 3) := by decide +kernel
theorem dX5_drawnDays_66 : decode cX5_drawnDays 66 = .ok (.iadd, 1) := by decide +kernel
theorem dX5_drawnDays_67 : decode cX5_drawnDays 67 = .ok (.istore 4, 2) := by decide +kernel
theorem dX5_drawnDays_69 : decode cX5_drawnDays 69 = .ok (.iload 5, 2) := by decide +kernel
theorem dX5_drawnDays_71 : decode cX5_drawnDays 71 = .ok (.aload_n 0, 1) := by decide +kernel
theorem dX5_drawnDays_72 : decode cX5_drawnDays 72 = .ok (.getfield 12, 3) := by decide +kernel
theorem dX5_drawnDays_75 : decode cX5_drawnDays 75 = .ok (.iconst 3, 1) := by decide +kernel
theorem dX5_drawnDays_76 : decode cX5_drawnDays 76 = .ok (.invokevirtual 34, 3) := by decide +kernel
theorem dX5_drawnDays_79 : decode cX5_drawnDays 79 = .ok (.iadd, 1) := by decide +kernel
theorem dX5_drawnDays_80 : decode cX5_drawnDays 80 = .ok (.istore 5, 2) := by decide +kernel
theorem dX5_drawnDays_82 : decode cX5_drawnDays 82 = .ok (.iinc 6 1, 3) := by decide +kernel
theorem dX5_drawnDays_85 : decode cX5_drawnDays 85 = .ok (.goto (-71), 3) := by decide +kernel
theorem dX5_drawnDays_88 : decode cX5_drawnDays 88 = .ok (.iload_n 3, 1) := by decide +kernel
theorem dX5_drawnDays_89 : decode cX5_drawnDays 89 = .ok (.ifCond .eq 8, 3) := by decide +kernel
theorem dX5_drawnDays_92 : decode cX5_drawnDays 92 = .ok (.iload 4, 2) := by decide +kernel
theorem dX5_drawnDays_94 : decode cX5_drawnDays 94 = .ok (.goto 5, 3) := by decide +kernel
theorem dX5_drawnDays_97 : decode cX5_drawnDays 97 = .ok (.iload 5, 2) := by decide +kernel
theorem dX5_drawnDays_99 : decode cX5_drawnDays 99 = .ok (.ireturn, 1) := by decide +kernel
theorem dX5_draw_0 : decode cX5_draw 0 = .ok (.aload_n 0, 1) := by decide +kernel
theorem dX5_draw_1 : decode cX5_draw 1 = .ok (.aload_n 0, 1) := by decide +kernel
theorem dX5_draw_2 : decode cX5_draw 2 = .ok (.getfield 111, 3) := by decide +kernel
theorem dX5_draw_5 : decode cX5_draw 5 = .ok (.ldc 120, 2) := by decide +kernel
theorem dX5_draw_7 : decode cX5_draw 7 = .ok (.imul, 1) := by decide +kernel
theorem dX5_draw_8 : decode cX5_draw 8 = .ok (.sipush 12345, 3) := by decide +kernel
theorem dX5_draw_11 : decode cX5_draw 11 = .ok (.iadd, 1) := by decide +kernel
theorem dX5_draw_12 : decode cX5_draw 12 = .ok (.putfield 111, 3) := by decide +kernel
end
section
/-! BASE: memories, the steps of the pure pictures, worlds by places, calls and ends over them -/
abbrev Mem : Type := Nat → Nat → Int32
abbrev Rw : Type := Nat → Int32
def up2 (m : Mem) (o k : Nat) (v : Int32) : Mem := va_up m o (upd (m o) k v)
def lt' {α β : Type} (v : α) (k : α → Option β) : Option β := k v
def ck {β : Type} (i : Int32) (n : Nat) (k : Option β) : Option β := if i < 0 ∨ n ≤ i.toNatClampNeg then none else k
def ckn {β : Type} (y : Int32) (k : Option β) : Option β := if y = 0 then none else k
def ckz {β : Type} (y : Int32) (k : Option β) : Option β := if y &&& 1 = y then k else none
def bd {α β : Type} (x : Option α) (k : α → Option β) : Option β := match x with | some a => k a | none => none
def bd2 {α α2 β : Type} (x : Option (α × α2)) (k : α → α2 → Option β) : Option β := match x with | some (a, b) => k a b | none => none
def bd3 {α α2 α3 β : Type} (x : Option (α × α2 × α3)) (k : α → α2 → α3 → Option β) : Option β := match x with | some (a, b, c) => k a b c | none => none
def bd4 {α α2 α3 α4 β : Type} (x : Option (α × α2 × α3 × α4)) (k : α → α2 → α3 → α4 → Option β) : Option β := match x with | some (a, b, c, d) => k a b c d | none => none
def bd5 {α α2 α3 α4 α5 β : Type} (x : Option (α × α2 × α3 × α4 × α5)) (k : α → α2 → α3 → α4 → α5 → Option β) : Option β := match x with | some (a, b, c, d, e) => k a b c d e | none => none
theorem lt_use {α β : Type} {v y : α} {k : α → Option β} {r : β} (e : y = v) (h : lt' v k = some r) : k y = some r := by subst e; exact h
theorem ck_use {β : Type} {i : Int32} {n : Nat} {k : Option β} {r : β} (h : ck i n k = some r) : vp_in i n ∧ k = some r := by
  unfold ck at h
  split at h
  · cases h
  · exact ⟨by assumption, h⟩
theorem ckn_use {β : Type} {y : Int32} {k : Option β} {r : β} (h : ckn y k = some r) : ¬ y = 0 ∧ k = some r := by
  unfold ckn at h
  split at h
  · cases h
  · exact ⟨by assumption, h⟩
theorem ckz_use {β : Type} {y : Int32} {k : Option β} {r : β} (h : ckz y k = some r) : y &&& 1 = y ∧ k = some r := by
  unfold ckz at h
  split at h
  · exact ⟨by assumption, h⟩
  · cases h
theorem bd_use {α β : Type} {x : Option α} {k : α → Option β} {r : β} (h : bd x k = some r) : ∃ a, x = some a ∧ k a = some r := by
  cases x with
  | none => cases h
  | some a => exact ⟨a, rfl, h⟩
theorem bd2_use {α α2 β : Type} {x : Option (α × α2)} {k : α → α2 → Option β} {r : β} (h : bd2 x k = some r) : ∃ a b, x = some (a, b) ∧ k a b = some r := by
  cases x with
  | none => cases h
  | some a => exact ⟨a.1, a.2, rfl, h⟩
theorem bd3_use {α α2 α3 β : Type} {x : Option (α × α2 × α3)} {k : α → α2 → α3 → Option β} {r : β} (h : bd3 x k = some r) : ∃ a b c, x = some (a, b, c) ∧ k a b c = some r := by
  cases x with
  | none => cases h
  | some a => exact ⟨a.1, a.2.1, a.2.2, rfl, h⟩
theorem bd4_use {α α2 α3 α4 β : Type} {x : Option (α × α2 × α3 × α4)} {k : α → α2 → α3 → α4 → Option β} {r : β} (h : bd4 x k = some r) : ∃ a b c d, x = some (a, b, c, d) ∧ k a b c d = some r := by
  cases x with
  | none => cases h
  | some a => exact ⟨a.1, a.2.1, a.2.2.1, a.2.2.2, rfl, h⟩
theorem bd5_use {α α2 α3 α4 α5 β : Type} {x : Option (α × α2 × α3 × α4 × α5)} {k : α → α2 → α3 → α4 → α5 → Option β} {r : β} (h : bd5 x k = some r) : ∃ a b c d e, x = some (a, b, c, d, e) ∧ k a b c d e = some r := by
  cases x with
  | none => cases h
  | some a => exact ⟨a.1, a.2.1, a.2.2.1, a.2.2.2.1, a.2.2.2.2, rfl, h⟩
theorem if_t {c : Prop} [Decidable c] {α : Type} {a b r : α} (h : c) (q : (if c then a else b) = r) : a = r := by rwa [if_pos h] at q
theorem if_f {c : Prop} [Decidable c] {α : Type} {a b r : α} (h : ¬ c) (q : (if c then a else b) = r) : b = r := by rwa [if_neg h] at q
theorem no_none {α : Type} {r : α} {P : Prop} (h : (none : Option α) = some r) : P := by cases h
theorem vp_lt {i : Int32} {n : Nat} (h : vp_in i n) : i.toNatClampNeg < n := Nat.not_le.mp fun q => h (Or.inr q)
theorem nar_z {v : Int32} (h : v &&& 1 = v) : narrow .boolean (.int v) = .int v := by
  show Value.int (v &&& 1) = .int v
  rw [h]
-- worlds by places
def setAll : va_W → List Nat → va_W → va_W
  | ws, [], _ => ws
  | ws, _ :: _, [] => ws
  | ws, k :: ks, e :: es => setAll (ws.set k e) ks es
termination_by structural _ js _ => js
theorem setAll_fst : ∀ (js : List Nat) (ws w1 wc : va_W), js.map (fun i => ws[i]?) = wc.map some → va_nd js = true → w1.map Prod.fst = wc.map Prod.fst → (setAll ws js w1).map Prod.fst = ws.map Prod.fst
  | [], _, _, _, _, _, _ => by unfold setAll; rfl
  | j :: js, ws, [], _, _, _, _ => by unfold setAll; rfl
  | j :: js, ws, e :: es, [], h, _, _ => by simp at h
  | j :: js, ws, e :: es, c :: cs, h, hn, ha => by
    simp only [List.map_cons, List.cons.injEq] at h ha
    simp only [va_nd, Bool.and_eq_true, decide_eq_true_eq] at hn
    have hset : (ws.set j e).map Prod.fst = ws.map Prod.fst := by
      apply List.ext_getElem?
      intro k
      rw [List.getElem?_map, List.getElem?_map, List.getElem?_set]
      by_cases hk : j = k
      · subst hk
        rw [if_pos rfl, h.1]
        have hl : j < ws.length := (List.getElem?_eq_some_iff.mp h.1).1
        rw [if_pos hl]
        simp [ha.1]
      · rw [if_neg hk]
    have h2 : js.map (fun i => (ws.set j e)[i]?) = cs.map some := by
      rw [← h.2]
      apply List.map_congr_left
      intro a hm
      rw [List.getElem?_set_ne]
      intro q
      subst q
      exact hn.1 hm
    unfold setAll
    rw [setAll_fst js (ws.set j e) es cs h2 hn.2 ha.2, hset]
theorem setAll_mem : ∀ (js : List Nat) (ws w1 : va_W) (k : Nat) (q : Nat × va_E), js.length = w1.length → (setAll ws js w1)[k]? = some q → q ∈ w1 ∨ (ws[k]? = some q ∧ k ∉ js)
  | [], ws, w1, k, q, _, h => by
    unfold setAll at h
    exact Or.inr ⟨h, List.not_mem_nil⟩
  | j :: js, ws, [], k, q, hl, h => by simp at hl
  | j :: js, ws, e :: es, k, q, hl, h => by
    unfold setAll at h
    rcases setAll_mem js (ws.set j e) es k q (by simpa using hl) h with g | ⟨g1, g2⟩
    · exact Or.inl (List.mem_cons_of_mem _ g)
    · by_cases hk : j = k
      · subst hk
        rw [List.getElem?_set] at g1
        simp only [if_true] at g1
        split at g1
        · cases g1
          exact Or.inl List.mem_cons_self
        · cases g1
      · rw [List.getElem?_set_ne hk] at g1
        exact Or.inr ⟨g1, fun m => (List.mem_cons.mp m).elim (fun e => hk e.symm) g2⟩
theorem va_D_fst {A : Nat → Prop} {ws ws' : va_W} (hD : va_D A ws) (h : ws'.map Prod.fst = ws.map Prod.fst) : va_D A ws' := by
  have key : ∀ (k : Nat) (q : Nat × va_E), ws'[k]? = some q → ∃ q0, ws[k]? = some q0 ∧ q0.1 = q.1 := by
    intro k q hk
    have h1 : (ws.map Prod.fst)[k]? = some q.1 := by rw [← h, List.getElem?_map, hk]; rfl
    rw [List.getElem?_map] at h1
    cases hq : ws[k]? with
    | none => rw [hq] at h1; cases h1
    | some q0 => rw [hq] at h1; exact ⟨q0, rfl, Option.some.inj h1⟩
  refine ⟨fun i j x y hi hj hxy => ?_, fun k q hk => ?_⟩
  · obtain ⟨x0, h1, h2⟩ := key i x hi
    obtain ⟨y0, h3, h4⟩ := key j y hj
    exact hD.1 i j x0 y0 h1 h3 (h2.trans (hxy.trans h4.symm))
  · obtain ⟨q0, h1, h2⟩ := key k q hk
    rw [← h2]
    exact hD.2 k q0 h1
/-- behind a call over the cells at the places js -/
theorem z_join {A0 : Nat → Prop} {D : va_G} {cl : List vw_C} {ws wc w1 : va_W} {H H1 : Heap} (hP : va_P D cl ws H) (hD : va_D A0 ws) (js : List Nat) (hC : js.map (fun i => ws[i]?) = wc.map some) (hn : va_nd js = true) (ha : w1.map Prod.fst = wc.map Prod.fst)
    (hk : ∀ q : Nat, q < H.size → ¬ va_A wc H.size q → H1[q]? = H[q]?) (hP1 : va_P D cl w1 H1) : va_P D cl (setAll ws js w1) H1 ∧ va_D A0 (setAll ws js w1) := by
  have hf := setAll_fst js ws w1 wc hC hn ha
  have hlen : js.length = w1.length := by
    have e1 := congrArg List.length hC
    have e2 := congrArg List.length ha
    simp only [List.length_map] at e1 e2
    omega
  refine ⟨fun k q hq => ?_, va_D_fst hD hf⟩
  rcases setAll_mem js ws w1 k q hlen hq with h | ⟨h1, h2⟩
  · obtain ⟨i, hi⟩ := List.getElem?_of_mem h
    exact hP1 i q hi
  · have hl := (hP k q h1).lt
    refine (hP k q h1).kept (hk q.1 hl ?_)
    rintro (⟨i, e, hi⟩ | h)
    · have h3 : (js.map (fun i => ws[i]?))[i]? = some (some (q.1, e)) := by rw [hC, List.getElem?_map, hi]; rfl
      rw [List.getElem?_map] at h3
      cases hj : js[i]? with
      | none => rw [hj] at h3; cases h3
      | some j =>
        rw [hj] at h3
        have h4 : ws[j]? = some (q.1, e) := Option.some.inj h3
        have h5 := hD.1 k j q (q.1, e) h1 h4 rfl
        subst h5
        exact h2 (List.mem_of_getElem? hj)
    · omega
-- a method's start and end
abbrev zK (D : va_G) (z : Nat → ClassId) (U : State) : Prop := va_K D vwCl [(z 0, .int), (z 1, .object "FilledForOne$Comer"), (z 2, .object "FilledForOne$Kettle")] U
/-- the static arrays: where they are, what they hold -/
def zT (tt : Nat → Nat) (A : Nat → Prop) (U : State) (H : Heap) : Prop :=
  (va_Z "FilledForOne" "FIRST_SETTINGS" "[I" (.ref (tt 0)) A U H ∧ va_T .int (tt 0) 8 (fun j => .int ([8, 1, 4, 3, 1, 2, 3, 1].getD j 0)) A U H) ∧
  (va_Z "FilledForOne" "LEAST_SETTINGS" "[I" (.ref (tt 1)) A U H ∧ va_T .int (tt 1) 8 (fun j => .int ([2, 0, 1, 1, 0, 0, 0, 1].getD j 0)) A U H) ∧
  (va_Z "FilledForOne" "GREATEST_SETTINGS" "[I" (.ref (tt 2)) A U H ∧ va_T .int (tt 2) 8 (fun j => .int ([11, 9, 20, 9, 9, 9, 11, 2].getD j 0)) A U H)
theorem zT.moved {tt : Nat → Nat} {A : Nat → Prop} {u U : State} {H : Heap} (hvm : u.vm.Alike U.vm) (h : zT tt A u H) : zT tt A U H :=
  ⟨⟨h.1.1.moved hvm, h.1.2.moved hvm⟩, ⟨h.2.1.1.moved hvm, h.2.1.2.moved hvm⟩, ⟨h.2.2.1.moved hvm, h.2.2.2.moved hvm⟩⟩
theorem zT.kept {tt : Nat → Nat} {A : Nat → Prop} {U : State} {H H1 : Heap} (h : zT tt A U H) (hq : ∀ a : Nat, a < H.size → ¬ A a → H1[a]? = H[a]?) : zT tt A U H1 :=
  ⟨⟨h.1.1.kept hq, h.1.2.kept hq⟩, ⟨h.2.1.1.kept hq, h.2.1.2.kept hq⟩, ⟨h.2.2.1.kept hq, h.2.2.2.kept hq⟩⟩
theorem zT.narrow {tt : Nat → Nat} {A B : Nat → Prop} {U : State} {H : Heap} (h : zT tt A U H) (hAB : ∀ q, B q → A q) : zT tt B U H :=
  ⟨⟨h.1.1.narrow hAB, h.1.2.narrow hAB⟩, ⟨h.2.1.1.narrow hAB, h.2.1.2.narrow hAB⟩, ⟨h.2.2.1.narrow hAB, h.2.2.2.narrow hAB⟩⟩
/-- what the launch says of private members of nest mates -/
def zN (U : State) : Prop :=
  va_Nw (.methodLinkNest RX0 58 yX6_heatingMinutes "FilledForOne") U ∧ va_Nw (.methodLinkNest RX3 27 yX6_heatingMinutes "FilledForOne") U ∧ va_Nw (.methodLinkNest RX2 29 yX1_init "FilledForOne") U ∧ va_Nw (.methodLinkNest RX2 36 yX3_init "FilledForOne") U ∧
  va_Nw (.fieldLinkNest RX2 9 "FilledForOne" "FIRST_SETTINGS" "[I" "FilledForOne") U ∧ va_Nw (.fieldLinkNest RX2 69 "FilledForOne" "LEAST_SETTINGS" "[I" "FilledForOne") U ∧ va_Nw (.fieldLinkNest RX2 72 "FilledForOne" "GREATEST_SETTINGS" "[I" "FilledForOne") U
theorem zN.warm {s U : State} (hW : s.WarmedH U.vm) (h : zN s) : zN U := ⟨va_Nw.warmM hW h.1, va_Nw.warmM hW h.2.1, va_Nw.warmM hW h.2.2.1, va_Nw.warmM hW h.2.2.2.1, va_Nw.warmF hW h.2.2.2.2.1, va_Nw.warmF hW h.2.2.2.2.2.1, va_Nw.warmF hW h.2.2.2.2.2.2⟩
theorem zN.same {u U : State} (e : u.vm = U.vm) (h : zN u) : zN U := ⟨va_Nw.same rfl e h.1, va_Nw.same rfl e h.2.1, va_Nw.same rfl e h.2.2.1, va_Nw.same rfl e h.2.2.2.1, va_Nw.same rfl e h.2.2.2.2.1, va_Nw.same rfl e h.2.2.2.2.2.1, va_Nw.same rfl e h.2.2.2.2.2.2⟩
def zPre (D : va_G) (z tt : Nat → Nat) (sz : Nat) (ws : va_W) (U : State) : Prop := U.heap.size = sz ∧ va_P D vwCl ws U.heap ∧ zK D z U ∧ va_D (fun _ => True) ws ∧ zT tt (va_A ws sz) U U.heap ∧ zN U
def zAt (D : va_G) (z : Nat → ClassId) (A : Nat → Prop) (ws : va_W) (t : State) : Prop := va_P D vwCl ws t.heap ∧ zK D z t ∧ va_D A ws
def MetI (l : Launch) (y : MethodName) (wds : List Cond) (rm : Room) (D : va_G) (z tt : Nat → Nat) (av : List Value) (ws : va_W) (r : Int32) (ws' : va_W) : Prop :=
  ∀ sz, Met l y wds rm (va_Pc av (zPre D z tt sz ws)) (va_Qi (fun (r' : Int32) (_ : Unit) => r' = r) (fun _ t => zAt D z (va_A ws sz) ws' t) (va_A ws sz)) 0 0 (va_A ws sz)
def MetV (l : Launch) (y : MethodName) (wds : List Cond) (rm : Room) (D : va_G) (z tt : Nat → Nat) (av : List Value) (ws : va_W) (ws' : va_W) : Prop :=
  ∀ sz, Met l y wds rm (va_Pc av (zPre D z tt sz ws)) (va_Qv (fun (_ : Unit) => True) (fun _ t => zAt D z (va_A ws sz) ws' t) (va_A ws sz)) 0 0 (va_A ws sz)
def MetQ (l : Launch) (y : MethodName) (wds : List Cond) (rm : Room) (D : va_G) (z tt : Nat → Nat) (av : List Value) (ws : va_W) (r : Option Nat) (ws' : va_W) : Prop :=
  ∀ sz, Met l y wds rm (va_Pc av (zPre D z tt sz ws)) (va_Qq (fun (r' : Option Nat) (_ : Unit) => r' = r) (fun _ t => zAt D z (va_A ws sz) ws' t) (va_A ws sz)) 0 0 (va_A ws sz)
theorem zPre_blind (D : va_G) (z tt : Nat → Nat) (sz : Nat) (ws : va_W) (av : List Value) : FrameBlind (va_Pc av (zPre D z tt sz ws)) := by
  intro a U g mk q
  obtain ⟨q0, q1, q2, q3, q4, q5, q6⟩ := q
  exact ⟨q0, q1, q2, va_K.moved (u := U) (U := U.calling g mk a) (Vm.Alike.refl U.vm) q3, q4, q5.moved (u := U) (U := U.calling g mk a) (Vm.Alike.refl U.vm), q6.same (u := U) (U := U.calling g mk a) rfl⟩
section ZE
variable {p : Program} {l : Launch} {e : Env} {R : Room} {s : State} {m : MethodId} {args : Array Value} {below : List Frame} {meth : Method} {c : Code} {H : Heap} {locs : List Loc} {cells slots : Nat} {Q : State → Prop}
variable {cc : ByteArray} {pc : Nat} {ls : Array Slot} {rest st0 : List Value} {D : va_G} {z tt : Nat → Nat} {A : Nat → Prop} {a : Nat} {ws wc w1 ws1 : va_W}
theorem ret_i (hexec : p.tables.exec = Jvm.exec) (hb : c.code = cc) (hr : meth.sig.returnType = some .int) (hlocks : meth.locks = false) (hK : zK D z s) {r : Int32} (hP : va_P D vwCl ws H) (hD : va_D A ws) (hS : va_S A s.heap H locs) (hdg : decode cc pc = .ok (.ireturn, 1)) :
    W p l e R s m args below meth c H locs cells slots (MQ below (va_Qi (fun (r' : Int32) (_ : Unit) => r' = r) (fun _ t => zAt D z A ws t) A) args s cells slots A) (F0 m pc ls [.int r]) :=
  W.iret hexec hb hr (fun t ht hW => ⟨⟨r, (), rfl, rfl, by rw [ht]; exact hP, va_K.moved hW.alike hK, hD⟩, hS.F ht⟩) hS.2.2 hdg
theorem ret_z (hexec : p.tables.exec = Jvm.exec) (hb : c.code = cc) (hr : meth.sig.returnType = some .boolean) (hlocks : meth.locks = false) (hK : zK D z s) {r : Int32} (hP : va_P D vwCl ws H) (hD : va_D A ws) (hS : va_S A s.heap H locs) (hz : r &&& 1 = r) (hdg : decode cc pc = .ok (.ireturn, 1)) :
    W p l e R s m args below meth c H locs cells slots (MQ below (va_Qi (fun (r' : Int32) (_ : Unit) => r' = r) (fun _ t => zAt D z A ws t) A) args s cells slots A) (F0 m pc ls [.int r]) :=
  W.zret hexec hb hr (nar_z hz) (fun t ht hW => ⟨⟨r, (), rfl, rfl, by rw [ht]; exact hP, va_K.moved hW.alike hK, hD⟩, hS.F ht⟩) hS.2.2 hdg
theorem ret_v (hexec : p.tables.exec = Jvm.exec) (hb : c.code = cc) (hr : meth.sig.returnType = none) (hlocks : meth.locks = false) (hK : zK D z s) (hP : va_P D vwCl ws H) (hD : va_D A ws) (hS : va_S A s.heap H locs) (hdg : decode cc pc = .ok (.return_, 1)) :
    W p l e R s m args below meth c H locs cells slots (MQ below (va_Qv (fun (_ : Unit) => True) (fun _ t => zAt D z A ws t) A) args s cells slots A) (F0 m pc ls []) :=
  W.vret hexec hb hr (fun t ht hW => ⟨⟨(), rfl, trivial, by rw [ht]; exact hP, va_K.moved hW.alike hK, hD⟩, hS.F ht⟩) hS.2.2 hdg
theorem ret_q (hexec : p.tables.exec = Jvm.exec) (hb : c.code = cc) {rt : FieldType} (hr : meth.sig.returnType = some rt) (hrt : (∃ n, rt = .object n) ∨ ∃ t, rt = .array t) (hlocks : meth.locks = false) (hK : zK D z s) {r : Option Nat} {v : Value} (hv : v = va_rf r) (hP : va_P D vwCl ws H) (hD : va_D A ws) (hS : va_S A s.heap H locs) (hdg : decode cc pc = .ok (.areturn, 1)) :
    W p l e R s m args below meth c H locs cells slots (MQ below (va_Qq (fun (r' : Option Nat) (_ : Unit) => r' = r) (fun _ t => zAt D z A ws t) A) args s cells slots A) (F0 m pc ls [v]) := by
  subst hv
  exact W.aret hexec hb hr hrt (va_rf_or r) (fun t ht hW => ⟨⟨r, (), rfl, rfl, by rw [ht]; exact hP, va_K.moved hW.alike hK, hD⟩, hS.F ht⟩) hS.2.2 hdg
/-- a field is written: the world is another memory's -/
theorem z_put {σ : Type} (hexec : p.tables.exec = Jvm.exec) (hb : c.code = cc) {own ref C : String} {T : u_T} {N ci index : Nat} {Ts : List Cond} (hts : ∀ w ∈ Ts, w.before args s = true) (hin : ∀ w ∈ u_ws C T N, w ∈ Ts) (ty0 : Nat → FieldType) (hty : ∀ k, k < N → parseFieldDescriptor (T k).2.2.1 = some (ty0 k)) (hnm : ∀ a, a < N → ∀ b, b < N → a ≠ b → (T a).2.1 ≠ (T b).2.1) (hown : s.vm.findClass own = some m.cls) (hK : zK D z s) (hP : va_P D vwCl ws H) (hD : va_D A ws) (hS0 : va_S A s.heap H locs) (q0 : Nat) {fs : List Value} (he : ws[q0]? = some (a, .inr (ci, fs))) (hc : vwCl[ci]? = some (C, T, N)) (k : Nat) (hk : k < N) (hlink : (Cond.fieldLink own index ref (T k).2.1 (T k).2.2.1).before args s = true) (hsame : ∀ x, s.fieldFound? (T k).1 (T k).2.1 (T k).2.2.1 = some x → s.fieldFound? ref (T k).2.1 (T k).2.2.1 = some x) (hfin : (T k).2.2.2 = false) {ty : FieldType} {v : Value} (hd : parseFieldDescriptor (T k).2.2.1 = some ty) (hn : narrow ty v = v) (hfit : fits ty v = true) (hl : k < fs.length)
    (hdg : decode cc pc = .ok (.putfield index, 3)) (Wf : σ → va_W) (x1 : σ) (hset : ws.set q0 (a, .inr (ci, fs.set k v)) = Wf x1)
    (kk : ∀ (x2 : σ), x2 = x1 → ∀ (H1 : Heap) (locs1 : List Loc), va_P D vwCl (Wf x2) H1 → va_D A (Wf x2) → va_S A s.heap H1 locs1 → W p l e R s m args below meth c H1 locs1 cells slots Q (F0 m (pc + 3) ls rest)) : W p l e R s m args below meth c H locs cells slots Q (F0 m pc ls (v :: .ref a :: rest)) :=
  va_put hexec hb hts hin ty0 hty hnm hown hK hP hD hS0 q0 he hc k hk hlink hsame hfin hd hn hfit hl hdg (fun H1 locs1 a b c => kk x1 rfl H1 locs1 (hset ▸ a) (hset ▸ b) c)
theorem z_putN {σ : Type} (hexec : p.tables.exec = Jvm.exec) (hb : c.code = cc) {own ref C host : String} {T : u_T} {N ci index : Nat} {Ts : List Cond} (hts : ∀ w ∈ Ts, w.before args s = true) (hin : ∀ w ∈ u_ws C T N, w ∈ Ts) (ty0 : Nat → FieldType) (hty : ∀ k, k < N → parseFieldDescriptor (T k).2.2.1 = some (ty0 k)) (hnm : ∀ a, a < N → ∀ b, b < N → a ≠ b → (T a).2.1 ≠ (T b).2.1) (hown : s.vm.findClass own = some m.cls) (hK : zK D z s) (hP : va_P D vwCl ws H) (hD : va_D A ws) (hS0 : va_S A s.heap H locs) (q0 : Nat) {fs : List Value} (he : ws[q0]? = some (a, .inr (ci, fs))) (hc : vwCl[ci]? = some (C, T, N)) (k : Nat) (hk : k < N) (hlink : (Cond.fieldLinkNest own index ref (T k).2.1 (T k).2.2.1 host).before args s = true) (hsame : ∀ x, s.fieldFound? (T k).1 (T k).2.1 (T k).2.2.1 = some x → s.fieldFound? ref (T k).2.1 (T k).2.2.1 = some x) (hfin : (T k).2.2.2 = false) {ty : FieldType} {v : Value} (hd : parseFieldDescriptor (T k).2.2.1 = some ty) (hn : narrow ty v = v) (hfit : fits ty v = true) (hl : k < fs.length)
    (hdg : decode cc pc = .ok (.putfield index, 3)) (Wf : σ → va_W) (x1 : σ) (hset : ws.set q0 (a, .inr (ci, fs.set k v)) = Wf x1)
    (kk : ∀ (x2 : σ), x2 = x1 → ∀ (H1 : Heap) (locs1 : List Loc), va_P D vwCl (Wf x2) H1 → va_D A (Wf x2) → va_S A s.heap H1 locs1 → W p l e R s m args below meth c H1 locs1 cells slots Q (F0 m (pc + 3) ls rest)) : W p l e R s m args below meth c H locs cells slots Q (F0 m pc ls (v :: .ref a :: rest)) :=
  va_putN hexec hb hts hin ty0 hty hnm hown hK hP hD hS0 q0 he hc k hk hlink hsame hfin hd hn hfit hl hdg (fun H1 locs1 a b c => kk x1 rfl H1 locs1 (hset ▸ a) (hset ▸ b) c)
theorem z_iast {σ : Type} (hexec : p.tables.exec = Jvm.exec) (hb : c.code = cc) (hK : zK D z s) (hP : va_P D vwCl ws H) (hD : va_D A ws) (hS : va_S A s.heap H locs) (q0 : Nat) {n : Nat} {f : Nat → Int32} (ha : ws[q0]? = some (a, .inl (z 0, n, .inl f))) {i : Int32} {x : Int32} (hin : vp_in i n) (hdg : decode cc pc = .ok (.iastore, 1))
    (Wf : σ → va_W) (x1 : σ) (hset : ws.set q0 (a, .inl (z 0, n, .inl (upd f i.toNatClampNeg x))) = Wf x1)
    (kk : ∀ (x2 : σ), x2 = x1 → ∀ (H1 : Heap) (locs1 : List Loc), va_P D vwCl (Wf x2) H1 → va_D A (Wf x2) → va_S A s.heap H1 locs1 → W p l e R s m args below meth c H1 locs1 cells slots Q (F0 m (pc + 1) ls rest)) : W p l e R s m args below meth c H locs cells slots Q (F0 m pc ls (.int x :: .int i :: .ref a :: rest)) :=
  va_iast hexec hb hK hP hD hS q0 0 ha rfl hin hdg (fun H1 locs1 a b c => kk x1 rfl H1 locs1 (hset ▸ a) (hset ▸ b) c)
theorem z_iald (hexec : p.tables.exec = Jvm.exec) (hb : c.code = cc) (hK : zK D z s) (hP : va_P D vwCl ws H) (q0 : Nat) {n : Nat} {f : Nat → Int32} (ha : ws[q0]? = some (a, .inl (z 0, n, .inl f))) {i : Int32} (hin : vp_in i n) (hdg : decode cc pc = .ok (.iaload, 1))
    (kk : W p l e R s m args below meth c H locs cells slots Q (F0 m (pc + 1) ls (.int (f i.toNatClampNeg) :: rest))) : W p l e R s m args below meth c H locs cells slots Q (F0 m pc ls (.int i :: .ref a :: rest)) :=
  va_iald hexec hb hK hP q0 0 ha rfl hin hdg kk
theorem z_ald (hexec : p.tables.exec = Jvm.exec) (hb : c.code = cc) (hK : zK D z s) (hP : va_P D vwCl ws H) (q0 t0 : Nat) {cA : ClassId} {C : String} {n : Nat} {g : Nat → Nat} (ha : ws[q0]? = some (a, .inl (cA, n, .inr (.inr (.inr (.inr (fun j => some (g j)))))))) (ht : [(z 0, FieldType.int), (z 1, .object "FilledForOne$Comer"), (z 2, .object "FilledForOne$Kettle")][t0]? = some (cA, .object C)) {i : Int32} (hin : vp_in i n) (hdg : decode cc pc = .ok (.aaload, 1))
    (kk : W p l e R s m args below meth c H locs cells slots Q (F0 m (pc + 1) ls (.ref (g i.toNatClampNeg) :: rest))) : W p l e R s m args below meth c H locs cells slots Q (F0 m pc ls (.int i :: .ref a :: rest)) :=
  va_aldq hexec hb hK hP q0 t0 ha ht hin hdg kk
theorem z_alen (hexec : p.tables.exec = Jvm.exec) (hb : c.code = cc) (hK : zK D z s) (hP : va_P D vwCl ws H) (q0 t0 : Nat) {cA : ClassId} {x : vp_A} (ha : ws[q0]? = some (a, .inl (cA, x))) {ty : FieldType} (ht : [(z 0, FieldType.int), (z 1, .object "FilledForOne$Comer"), (z 2, .object "FilledForOne$Kettle")][t0]? = some (cA, ty)) {v : Int32} (hv : Int32.ofNat x.1 = v) (hdg : decode cc pc = .ok (.arraylength, 1))
    (kk : W p l e R s m args below meth c H locs cells slots Q (F0 m (pc + 1) ls (.int v :: rest))) : W p l e R s m args below meth c H locs cells slots Q (F0 m pc ls (.ref a :: rest)) :=
  va_alen hexec hb hK hP q0 t0 ha ht hv hdg kk
/-- what a call needs of the caller's world, and what it gives back -/
theorem z_preV {C : String} {b : Nat} {As : List Value} (hK : zK D z s) (hP : va_P D vwCl ws H) (hD : va_D A ws) (hS : va_S A s.heap H locs) (hA : ∀ q, s.heap.size ≤ q → A q) (hT : zT tt A s s.heap) (hN : zN s) (js : List Nat) (hC : js.map (fun i => ws[i]?) = wc.map some) (hn : va_nd js = true) (hcell : ∃ cell : Cell, H[b]? = some cell ∧ cell.vm.isStatics = false ∧ s.vm.findClass C = some cell.cls) :
    PreV s H C b (va_Pc (.ref b :: As) (zPre D z tt H.size wc)) As := by
  refine ⟨zPre_blind _ _ _ _ _ _, hcell, fun U hU hW => ⟨rfl, by rw [hU], ?_, va_K.moved hW.alike hK, ?_, ?_, hN.warm hW⟩⟩
  · rw [hU]
    exact fun k q hk => by
      have h1 : (js.map (fun i => ws[i]?))[k]? = some (some q) := by rw [hC, List.getElem?_map, hk]; rfl
      rw [List.getElem?_map] at h1
      cases hi : js[k]? with
      | none => rw [hi] at h1; cases h1
      | some i => rw [hi] at h1; exact hP i q (Option.some.inj h1)
  · exact (hD.sub js hn hC).weaken (fun _ _ _ _ => trivial)
  · rw [hU]
    exact ((hT.kept (fun a h1 h2 => hS.2.1 a h1 h2)).moved hW.alike).narrow (va_free hD hS hA js hC)
theorem z_preS {As : List Value} (hK : zK D z s) (hP : va_P D vwCl ws H) (hD : va_D A ws) (hS : va_S A s.heap H locs) (hA : ∀ q, s.heap.size ≤ q → A q) (hT : zT tt A s s.heap) (hN : zN s) (js : List Nat) (hC : js.map (fun i => ws[i]?) = wc.map some) (hn : va_nd js = true) :
    PreS s H (va_Pc As (zPre D z tt H.size wc)) As := by
  refine ⟨zPre_blind _ _ _ _ _ _, fun U hU hW => ⟨rfl, by rw [hU], ?_, va_K.moved hW.alike hK, ?_, ?_, hN.warm hW⟩⟩
  · rw [hU]
    exact fun k q hk => by
      have h1 : (js.map (fun i => ws[i]?))[k]? = some (some q) := by rw [hC, List.getElem?_map, hk]; rfl
      rw [List.getElem?_map] at h1
      cases hi : js[k]? with
      | none => rw [hi] at h1; cases h1
      | some i => rw [hi] at h1; exact hP i q (Option.some.inj h1)
  · exact (hD.sub js hn hC).weaken (fun _ _ _ _ => trivial)
  · rw [hU]
    exact ((hT.kept (fun a h1 h2 => hS.2.1 a h1 h2)).moved hW.alike).narrow (va_free hD hS hA js hC)
/-- the call has run: an int comes back -/
theorem z_goI {r : Int32} {aa : Array Value} (hr : va_Run p l e R s m args below meth c H locs cells slots 0 0 (F0 m pc ls st0) rest (va_Qi (fun (r' : Int32) (_ : Unit) => r' = r) (fun _ t => zAt D z (va_A wc H.size) w1 t) (va_A wc H.size) aa) (va_A wc H.size)) (hP : va_P D vwCl ws H) (hD : va_D A ws) (hS : va_S A s.heap H locs) (hA : ∀ q, s.heap.size ≤ q → A q) (js : List Nat) (hC : js.map (fun i => ws[i]?) = wc.map some) (hn : va_nd js = true) (ha : w1.map Prod.fst = wc.map Prod.fst) (hset : setAll ws js w1 = ws1)
    (kk : ∀ (H1 : Heap) (locs1 : List Loc), va_P D vwCl ws1 H1 → va_D A ws1 → va_S A s.heap H1 locs1 → W p l e R s m args below meth c H1 locs1 cells slots Q (F0 m (pc + 3) ls (.int r :: rest))) : W p l e R s m args below meth c H locs cells slots Q (F0 m pc ls st0) := by
  refine va_calli hr hS (fun q _ h => va_free hD hS hA js hC q h) (va_free hD hS hA js hC) (fun r' u t H1 locs1 ht hvm hw hB hz1 hk1 hS1 => ?_)
  obtain ⟨hP1, -, -⟩ := hB
  rw [ht] at hP1
  obtain ⟨g1, g2⟩ := z_join hP hD js hC hn ha hk1 hP1
  subst hset
  have hw : r' = r := hw
  rw [hw]
  exact kk H1 locs1 g1 g2 hS1
theorem z_goV {aa : Array Value} (hr : va_Run p l e R s m args below meth c H locs cells slots 0 0 (F0 m pc ls st0) rest (va_Qv (fun (_ : Unit) => True) (fun _ t => zAt D z (va_A wc H.size) w1 t) (va_A wc H.size) aa) (va_A wc H.size)) (hP : va_P D vwCl ws H) (hD : va_D A ws) (hS : va_S A s.heap H locs) (hA : ∀ q, s.heap.size ≤ q → A q) (js : List Nat) (hC : js.map (fun i => ws[i]?) = wc.map some) (hn : va_nd js = true) (ha : w1.map Prod.fst = wc.map Prod.fst) (hset : setAll ws js w1 = ws1)
    (kk : ∀ (H1 : Heap) (locs1 : List Loc), va_P D vwCl ws1 H1 → va_D A ws1 → va_S A s.heap H1 locs1 → W p l e R s m args below meth c H1 locs1 cells slots Q (F0 m (pc + 3) ls rest)) : W p l e R s m args below meth c H locs cells slots Q (F0 m pc ls st0) := by
  refine va_callv hr hS (fun q _ h => va_free hD hS hA js hC q h) (va_free hD hS hA js hC) (fun u t H1 locs1 ht hvm hw hB hz1 hk1 hS1 => ?_)
  obtain ⟨hP1, -, -⟩ := hB
  rw [ht] at hP1
  obtain ⟨g1, g2⟩ := z_join hP hD js hC hn ha hk1 hP1
  subst hset
  exact kk H1 locs1 g1 g2 hS1
theorem z_goQ {r : Option Nat} {aa : Array Value} (hr : va_Run p l e R s m args below meth c H locs cells slots 0 0 (F0 m pc ls st0) rest (va_Qq (fun (r' : Option Nat) (_ : Unit) => r' = r) (fun _ t => zAt D z (va_A wc H.size) w1 t) (va_A wc H.size) aa) (va_A wc H.size)) (hP : va_P D vwCl ws H) (hD : va_D A ws) (hS : va_S A s.heap H locs) (hA : ∀ q, s.heap.size ≤ q → A q) (js : List Nat) (hC : js.map (fun i => ws[i]?) = wc.map some) (hn : va_nd js = true) (ha : w1.map Prod.fst = wc.map Prod.fst) (hset : setAll ws js w1 = ws1)
    (kk : ∀ (H1 : Heap) (locs1 : List Loc), va_P D vwCl ws1 H1 → va_D A ws1 → va_S A s.heap H1 locs1 → W p l e R s m args below meth c H1 locs1 cells slots Q (F0 m (pc + 3) ls (va_rf r :: rest))) : W p l e R s m args below meth c H locs cells slots Q (F0 m pc ls st0) := by
  refine va_callq hr hS (fun q _ h => va_free hD hS hA js hC q h) (va_free hD hS hA js hC) (fun r' u t H1 locs1 ht hvm hw hB hz1 hk1 hS1 => ?_)
  obtain ⟨hP1, -, -⟩ := hB
  rw [ht] at hP1
  obtain ⟨g1, g2⟩ := z_join hP hD js hC hn ha hk1 hP1
  subst hset
  have hw : r' = r := hw
  rw [hw]
  exact kk H1 locs1 g1 g2 hS1
end ZE
end
section
def jn1 {α β : Type} (f9 : α → Option β) (g9 : (α → Option β) → Option β) : Option β := g9 f9
theorem jn1_use {α β : Type} {f9 : α → Option β} {g9 : (α → Option β) → Option β} {r : β} (h9 : jn1 f9 g9 = some r) : ∃ k, k = f9 ∧ g9 k = some r := ⟨f9, rfl, h9⟩
theorem jn1_ap {α β : Type} {f9 k : α → Option β} {a : α} {r : β} (e9 : k = f9) (h9 : k a = some r) : f9 a = some r := by subst e9; exact h9
def zl1 {α β : Type} (F9 : (α → Option β) → α → Option β) : Nat → α → Option β
  | 0, _ => none
  | n9 + 1, a => F9 (zl1 F9 n9) a
theorem zl1_use {α β : Type} {F9 : (α → Option β) → α → Option β} {n9 : Nat} {a : α} {r : β} (h9 : zl1 F9 n9 a = some r) : ∃ G, G = F9 ∧ zl1 G n9 a = some r := ⟨F9, rfl, h9⟩
theorem zl1_s {α β : Type} {F9 G : (α → Option β) → α → Option β} {n9 : Nat} {a : α} {r : β} (e9 : G = F9) (h9 : zl1 G (n9 + 1) a = some r) : F9 (zl1 G n9) a = some r := by subst e9; exact h9
def jn2 {α α2 β : Type} (f9 : α → α2 → Option β) (g9 : (α → α2 → Option β) → Option β) : Option β := g9 f9
theorem jn2_use {α α2 β : Type} {f9 : α → α2 → Option β} {g9 : (α → α2 → Option β) → Option β} {r : β} (h9 : jn2 f9 g9 = some r) : ∃ k, k = f9 ∧ g9 k = some r := ⟨f9, rfl, h9⟩
theorem jn2_ap {α α2 β : Type} {f9 k : α → α2 → Option β} {a : α} {b : α2} {r : β} (e9 : k = f9) (h9 : k a b = some r) : f9 a b = some r := by subst e9; exact h9
def zl2 {α α2 β : Type} (F9 : (α → α2 → Option β) → α → α2 → Option β) : Nat → α → α2 → Option β
  | 0, _, _ => none
  | n9 + 1, a, b => F9 (zl2 F9 n9) a b
theorem zl2_use {α α2 β : Type} {F9 : (α → α2 → Option β) → α → α2 → Option β} {n9 : Nat} {a : α} {b : α2} {r : β} (h9 : zl2 F9 n9 a b = some r) : ∃ G, G = F9 ∧ zl2 G n9 a b = some r := ⟨F9, rfl, h9⟩
theorem zl2_s {α α2 β : Type} {F9 G : (α → α2 → Option β) → α → α2 → Option β} {n9 : Nat} {a : α} {b : α2} {r : β} (e9 : G = F9) (h9 : zl2 G (n9 + 1) a b = some r) : F9 (zl2 G n9) a b = some r := by subst e9; exact h9
def jn3 {α α2 α3 β : Type} (f9 : α → α2 → α3 → Option β) (g9 : (α → α2 → α3 → Option β) → Option β) : Option β := g9 f9
theorem jn3_use {α α2 α3 β : Type} {f9 : α → α2 → α3 → Option β} {g9 : (α → α2 → α3 → Option β) → Option β} {r : β} (h9 : jn3 f9 g9 = some r) : ∃ k, k = f9 ∧ g9 k = some r := ⟨f9, rfl, h9⟩
theorem jn3_ap {α α2 α3 β : Type} {f9 k : α → α2 → α3 → Option β} {a : α} {b : α2} {c : α3} {r : β} (e9 : k = f9) (h9 : k a b c = some r) : f9 a b c = some r := by subst e9; exact h9
def zl3 {α α2 α3 β : Type} (F9 : (α → α2 → α3 → Option β) → α → α2 → α3 → Option β) : Nat → α → α2 → α3 → Option β
  | 0, _, _, _ => none
  | n9 + 1, a, b, c => F9 (zl3 F9 n9) a b c
theorem zl3_use {α α2 α3 β : Type} {F9 : (α → α2 → α3 → Option β) → α → α2 → α3 → Option β} {n9 : Nat} {a : α} {b : α2} {c : α3} {r : β} (h9 : zl3 F9 n9 a b c = some r) : ∃ G, G = F9 ∧ zl3 G n9 a b c = some r := ⟨F9, rfl, h9⟩
theorem zl3_s {α α2 α3 β : Type} {F9 G : (α → α2 → α3 → Option β) → α → α2 → α3 → Option β} {n9 : Nat} {a : α} {b : α2} {c : α3} {r : β} (e9 : G = F9) (h9 : zl3 G (n9 + 1) a b c = some r) : F9 (zl3 G n9) a b c = some r := by subst e9; exact h9
def jn4 {α α2 α3 α4 β : Type} (f9 : α → α2 → α3 → α4 → Option β) (g9 : (α → α2 → α3 → α4 → Option β) → Option β) : Option β := g9 f9
theorem jn4_use {α α2 α3 α4 β : Type} {f9 : α → α2 → α3 → α4 → Option β} {g9 : (α → α2 → α3 → α4 → Option β) → Option β} {r : β} (h9 : jn4 f9 g9 = some r) : ∃ k, k = f9 ∧ g9 k = some r := ⟨f9, rfl, h9⟩
theorem jn4_ap {α α2 α3 α4 β : Type} {f9 k : α → α2 → α3 → α4 → Option β} {a : α} {b : α2} {c : α3} {d : α4} {r : β} (e9 : k = f9) (h9 : k a b c d = some r) : f9 a b c d = some r := by subst e9; exact h9
def zl4 {α α2 α3 α4 β : Type} (F9 : (α → α2 → α3 → α4 → Option β) → α → α2 → α3 → α4 → Option β) : Nat → α → α2 → α3 → α4 → Option β
  | 0, _, _, _, _ => none
  | n9 + 1, a, b, c, d => F9 (zl4 F9 n9) a b c d
theorem zl4_use {α α2 α3 α4 β : Type} {F9 : (α → α2 → α3 → α4 → Option β) → α → α2 → α3 → α4 → Option β} {n9 : Nat} {a : α} {b : α2} {c : α3} {d : α4} {r : β} (h9 : zl4 F9 n9 a b c d = some r) : ∃ G, G = F9 ∧ zl4 G n9 a b c d = some r := ⟨F9, rfl, h9⟩
theorem zl4_s {α α2 α3 α4 β : Type} {F9 G : (α → α2 → α3 → α4 → Option β) → α → α2 → α3 → α4 → Option β} {n9 : Nat} {a : α} {b : α2} {c : α3} {d : α4} {r : β} (e9 : G = F9) (h9 : zl4 G (n9 + 1) a b c d = some r) : F9 (zl4 G n9) a b c d = some r := by subst e9; exact h9
def jn5 {α α2 α3 α4 α5 β : Type} (f9 : α → α2 → α3 → α4 → α5 → Option β) (g9 : (α → α2 → α3 → α4 → α5 → Option β) → Option β) : Option β := g9 f9
theorem jn5_use {α α2 α3 α4 α5 β : Type} {f9 : α → α2 → α3 → α4 → α5 → Option β} {g9 : (α → α2 → α3 → α4 → α5 → Option β) → Option β} {r : β} (h9 : jn5 f9 g9 = some r) : ∃ k, k = f9 ∧ g9 k = some r := ⟨f9, rfl, h9⟩
theorem jn5_ap {α α2 α3 α4 α5 β : Type} {f9 k : α → α2 → α3 → α4 → α5 → Option β} {a : α} {b : α2} {c : α3} {d : α4} {e : α5} {r : β} (e9 : k = f9) (h9 : k a b c d e = some r) : f9 a b c d e = some r := by subst e9; exact h9
def zl5 {α α2 α3 α4 α5 β : Type} (F9 : (α → α2 → α3 → α4 → α5 → Option β) → α → α2 → α3 → α4 → α5 → Option β) : Nat → α → α2 → α3 → α4 → α5 → Option β
  | 0, _, _, _, _, _ => none
  | n9 + 1, a, b, c, d, e => F9 (zl5 F9 n9) a b c d e
theorem zl5_use {α α2 α3 α4 α5 β : Type} {F9 : (α → α2 → α3 → α4 → α5 → Option β) → α → α2 → α3 → α4 → α5 → Option β} {n9 : Nat} {a : α} {b : α2} {c : α3} {d : α4} {e : α5} {r : β} (h9 : zl5 F9 n9 a b c d e = some r) : ∃ G, G = F9 ∧ zl5 G n9 a b c d e = some r := ⟨F9, rfl, h9⟩
theorem zl5_s {α α2 α3 α4 α5 β : Type} {F9 G : (α → α2 → α3 → α4 → α5 → Option β) → α → α2 → α3 → α4 → α5 → Option β} {n9 : Nat} {a : α} {b : α2} {c : α3} {d : α4} {e : α5} {r : β} (e9 : G = F9) (h9 : zl5 G (n9 + 1) a b c d e = some r) : F9 (zl5 G n9) a b c d e = some r := by subst e9; exact h9
def jn6 {α α2 α3 α4 α5 α6 β : Type} (f9 : α → α2 → α3 → α4 → α5 → α6 → Option β) (g9 : (α → α2 → α3 → α4 → α5 → α6 → Option β) → Option β) : Option β := g9 f9
theorem jn6_use {α α2 α3 α4 α5 α6 β : Type} {f9 : α → α2 → α3 → α4 → α5 → α6 → Option β} {g9 : (α → α2 → α3 → α4 → α5 → α6 → Option β) → Option β} {r : β} (h9 : jn6 f9 g9 = some r) : ∃ k, k = f9 ∧ g9 k = some r := ⟨f9, rfl, h9⟩
theorem jn6_ap {α α2 α3 α4 α5 α6 β : Type} {f9 k : α → α2 → α3 → α4 → α5 → α6 → Option β} {a : α} {b : α2} {c : α3} {d : α4} {e : α5} {f : α6} {r : β} (e9 : k = f9) (h9 : k a b c d e f = some r) : f9 a b c d e f = some r := by subst e9; exact h9
def zl6 {α α2 α3 α4 α5 α6 β : Type} (F9 : (α → α2 → α3 → α4 → α5 → α6 → Option β) → α → α2 → α3 → α4 → α5 → α6 → Option β) : Nat → α → α2 → α3 → α4 → α5 → α6 → Option β
  | 0, _, _, _, _, _, _ => none
  | n9 + 1, a, b, c, d, e, f => F9 (zl6 F9 n9) a b c d e f
theorem zl6_use {α α2 α3 α4 α5 α6 β : Type} {F9 : (α → α2 → α3 → α4 → α5 → α6 → Option β) → α → α2 → α3 → α4 → α5 → α6 → Option β} {n9 : Nat} {a : α} {b : α2} {c : α3} {d : α4} {e : α5} {f : α6} {r : β} (h9 : zl6 F9 n9 a b c d e f = some r) : ∃ G, G = F9 ∧ zl6 G n9 a b c d e f = some r := ⟨F9, rfl, h9⟩
theorem zl6_s {α α2 α3 α4 α5 α6 β : Type} {F9 G : (α → α2 → α3 → α4 → α5 → α6 → Option β) → α → α2 → α3 → α4 → α5 → α6 → Option β} {n9 : Nat} {a : α} {b : α2} {c : α3} {d : α4} {e : α5} {f : α6} {r : β} (e9 : G = F9) (h9 : zl6 G (n9 + 1) a b c d e f = some r) : F9 (zl6 G n9) a b c d e f = some r := by subst e9; exact h9
def jn7 {α α2 α3 α4 α5 α6 α7 β : Type} (f9 : α → α2 → α3 → α4 → α5 → α6 → α7 → Option β) (g9 : (α → α2 → α3 → α4 → α5 → α6 → α7 → Option β) → Option β) : Option β := g9 f9
theorem jn7_use {α α2 α3 α4 α5 α6 α7 β : Type} {f9 : α → α2 → α3 → α4 → α5 → α6 → α7 → Option β} {g9 : (α → α2 → α3 → α4 → α5 → α6 → α7 → Option β) → Option β} {r : β} (h9 : jn7 f9 g9 = some r) : ∃ k, k = f9 ∧ g9 k = some r := ⟨f9, rfl, h9⟩
theorem jn7_ap {α α2 α3 α4 α5 α6 α7 β : Type} {f9 k : α → α2 → α3 → α4 → α5 → α6 → α7 → Option β} {a : α} {b : α2} {c : α3} {d : α4} {e : α5} {f : α6} {g : α7} {r : β} (e9 : k = f9) (h9 : k a b c d e f g = some r) : f9 a b c d e f g = some r := by subst e9; exact h9
def zl7 {α α2 α3 α4 α5 α6 α7 β : Type} (F9 : (α → α2 → α3 → α4 → α5 → α6 → α7 → Option β) → α → α2 → α3 → α4 → α5 → α6 → α7 → Option β) : Nat → α → α2 → α3 → α4 → α5 → α6 → α7 → Option β
  | 0, _, _, _, _, _, _, _ => none
  | n9 + 1, a, b, c, d, e, f, g => F9 (zl7 F9 n9) a b c d e f g
theorem zl7_use {α α2 α3 α4 α5 α6 α7 β : Type} {F9 : (α → α2 → α3 → α4 → α5 → α6 → α7 → Option β) → α → α2 → α3 → α4 → α5 → α6 → α7 → Option β} {n9 : Nat} {a : α} {b : α2} {c : α3} {d : α4} {e : α5} {f : α6} {g : α7} {r : β} (h9 : zl7 F9 n9 a b c d e f g = some r) : ∃ G, G = F9 ∧ zl7 G n9 a b c d e f g = some r := ⟨F9, rfl, h9⟩
theorem zl7_s {α α2 α3 α4 α5 α6 α7 β : Type} {F9 G : (α → α2 → α3 → α4 → α5 → α6 → α7 → Option β) → α → α2 → α3 → α4 → α5 → α6 → α7 → Option β} {n9 : Nat} {a : α} {b : α2} {c : α3} {d : α4} {e : α5} {f : α6} {g : α7} {r : β} (e9 : G = F9) (h9 : zl7 G (n9 + 1) a b c d e f g = some r) : F9 (zl7 G n9) a b c d e f g = some r := by subst e9; exact h9
def jn8 {α α2 α3 α4 α5 α6 α7 α8 β : Type} (f9 : α → α2 → α3 → α4 → α5 → α6 → α7 → α8 → Option β) (g9 : (α → α2 → α3 → α4 → α5 → α6 → α7 → α8 → Option β) → Option β) : Option β := g9 f9
theorem jn8_use {α α2 α3 α4 α5 α6 α7 α8 β : Type} {f9 : α → α2 → α3 → α4 → α5 → α6 → α7 → α8 → Option β} {g9 : (α → α2 → α3 → α4 → α5 → α6 → α7 → α8 → Option β) → Option β} {r : β} (h9 : jn8 f9 g9 = some r) : ∃ k, k = f9 ∧ g9 k = some r := ⟨f9, rfl, h9⟩
theorem jn8_ap {α α2 α3 α4 α5 α6 α7 α8 β : Type} {f9 k : α → α2 → α3 → α4 → α5 → α6 → α7 → α8 → Option β} {a : α} {b : α2} {c : α3} {d : α4} {e : α5} {f : α6} {g : α7} {h : α8} {r : β} (e9 : k = f9) (h9 : k a b c d e f g h = some r) : f9 a b c d e f g h = some r := by subst e9; exact h9
def zl8 {α α2 α3 α4 α5 α6 α7 α8 β : Type} (F9 : (α → α2 → α3 → α4 → α5 → α6 → α7 → α8 → Option β) → α → α2 → α3 → α4 → α5 → α6 → α7 → α8 → Option β) : Nat → α → α2 → α3 → α4 → α5 → α6 → α7 → α8 → Option β
  | 0, _, _, _, _, _, _, _, _ => none
  | n9 + 1, a, b, c, d, e, f, g, h => F9 (zl8 F9 n9) a b c d e f g h
theorem zl8_use {α α2 α3 α4 α5 α6 α7 α8 β : Type} {F9 : (α → α2 → α3 → α4 → α5 → α6 → α7 → α8 → Option β) → α → α2 → α3 → α4 → α5 → α6 → α7 → α8 → Option β} {n9 : Nat} {a : α} {b : α2} {c : α3} {d : α4} {e : α5} {f : α6} {g : α7} {h : α8} {r : β} (h9 : zl8 F9 n9 a b c d e f g h = some r) : ∃ G, G = F9 ∧ zl8 G n9 a b c d e f g h = some r := ⟨F9, rfl, h9⟩
theorem zl8_s {α α2 α3 α4 α5 α6 α7 α8 β : Type} {F9 G : (α → α2 → α3 → α4 → α5 → α6 → α7 → α8 → Option β) → α → α2 → α3 → α4 → α5 → α6 → α7 → α8 → Option β} {n9 : Nat} {a : α} {b : α2} {c : α3} {d : α4} {e : α5} {f : α6} {g : α7} {h : α8} {r : β} (e9 : G = F9) (h9 : zl8 G (n9 + 1) a b c d e f g h = some r) : F9 (zl8 G n9) a b c d e f g h = some r := by subst e9; exact h9
def ckk {β : Type} (i n : Nat) (k : Option β) : Option β := if i < n then k else none
theorem ckk_use {β : Type} {i n : Nat} {k : Option β} {r : β} (h : ckk i n k = some r) : i < n ∧ k = some r := by
  unfold ckk at h
  split at h
  · exact ⟨by assumption, h⟩
  · cases h
def oc {β : Type} (r : Option Nat) (a : Option β) (b : Nat → Option β) : Option β := match r with | none => a | some i => b i
theorem oc_use {β : Type} {r : Option Nat} {a : Option β} {b : Nat → Option β} {x : β} (h : oc r a b = some x) : (r = none ∧ a = some x) ∨ ∃ i, r = some i ∧ b i = some x := by
  cases r with
  | none => exact Or.inl ⟨rfl, h⟩
  | some i => exact Or.inr ⟨i, rfl, h⟩
def imax (x y : Int32) : Int32 := if x < y then y else x
def imin (x y : Int32) : Int32 := if y < x then y else x
theorem fit_z {v : Int32} (h : v &&& 1 = v) : fits .boolean (.int v) = true := by
  obtain ⟨j, hj, e⟩ := pk_andE v (m := 1) 1 (by decide)
  rw [h] at e
  rcases (show j = 0 ∨ j = 1 by omega) with rfl | rfl <;> subst e <;> rfl
theorem js1 {ws : va_W} {k : Nat} {e : Nat × va_E} (h : ws[k]? = some e) : [k].map (fun i => ws[i]?) = [e].map some := by simp [h]
theorem js2 {ws : va_W} {k k2 : Nat} {e e2 : Nat × va_E} (h : ws[k]? = some e) (h2 : ws[k2]? = some e2) : [k, k2].map (fun i => ws[i]?) = [e, e2].map some := by simp [h, h2]
theorem nd1 (k : Nat) : va_nd [k] = true := by simp [va_nd]
theorem nd2 {k k2 : Nat} (h : k ≠ k2) : va_nd [k, k2] = true := by simp [va_nd, h]
theorem set_same {ws : va_W} {k : Nat} {e : Nat × va_E} (h : ws[k]? = some e) : setAll ws [k] [e] = ws := by
  show ws.set k e = ws
  apply List.ext_getElem?
  intro i
  rw [List.getElem?_set]
  by_cases q : k = i
  · subst q
    have hl := (List.getElem?_eq_some_iff.mp h).1
    rw [if_pos rfl, if_pos hl, h]
  · rw [if_neg q]
theorem set2_same {ws ws1 : va_W} {k k2 : Nat} {e e2 : Nat × va_E} (h : ws.set k e = ws1) (h2 : ws[k2]? = some e2) (hne : k ≠ k2) : setAll ws [k, k2] [e, e2] = ws1 := by
  show (ws.set k e).set k2 e2 = ws1
  have h3 : (ws.set k e)[k2]? = some e2 := by rw [List.getElem?_set_ne hne]; exact h2
  have h4 := set_same h3
  have h5 : (ws.set k e).set k2 e2 = ws.set k e := h4
  rw [h5, h]
theorem w_beg {Y Z : va_W} {k : Nat} {e : Nat × va_E} (h : Y[k]? = some e) : (Y ++ Z)[k]? = some e := by
  rw [List.getElem?_append_left (List.getElem?_eq_some_iff.mp h).1]; exact h
theorem w_skip {X Z : va_W} {n k : Nat} {e : Nat × va_E} (hX : X.length = n) (h : Z[k]? = some e) : (X ++ Z)[n + k]? = some e := by
  rw [List.getElem?_append_right (by omega), show n + k - X.length = k by omega]; exact h
theorem s_beg {Y Y' Z : va_W} {k : Nat} {e0 e : Nat × va_E} (h : Y[k]? = some e0) (hs : Y.set k e = Y') : (Y ++ Z).set k e = Y' ++ Z := by
  rw [List.set_append_left _ _ (List.getElem?_eq_some_iff.mp h).1, hs]
theorem s_skip {X Z Z' : va_W} {n k : Nat} {e : Nat × va_E} (hX : X.length = n) (hs : Z.set k e = Z') : (X ++ Z).set (n + k) e = X ++ Z' := by
  rw [List.set_append_right _ _ (by omega), show n + k - X.length = k by omega, hs]
-- the cells
abbrev obC (r : Rw) : va_E := .inr (1, [.int (r 0), .int (r 1), .int (r 2), .int (r 3), .int (r 4), .int (r 5), .int (r 6)])
abbrev obK (r : Rw) : va_E := .inr (3, [.int (r 0), .int (r 1), .int (r 2), .int (r 3), .int (r 4)])
def WCom (h : Nat) (r : Rw) : va_W := [(h, obC r)]
def WKet (h : Nat) (r : Rw) : va_W := [(h, obK r)]
def WRow (z : Nat → ClassId) (h n : Nat) (r : Rw) : va_W := [(h, .inl (z 0, n, .inl r))]
def WMin (h d : Nat) (m : Mem) : va_W := [(h, .inr (5, [.ref d, .int (m 0 1)]))]
def WArr (z : Nat → ClassId) (a : Nat → Nat) (m : Mem) : va_W := [(a 0, .inr (0, [.ref (a 1), .ref (a 2), .int (m 0 2)])), (a 1, .inl (z 0, 8, .inl (m 1))), (a 2, .inl (z 0, 8, .inl (m 2)))]
def WLet (z : Nat → ClassId) (a : Nat → Nat) (m : Mem) : va_W := [(a 0, .inr (4, [.ref (a 1), .int (m 0 1), .int (m 0 2)])), (a 1, .inl (z 0, 96, .inl (m 1)))]
def WFac (z : Nat → ClassId) (a : Nat → Nat) (bn bk bm ba bl : Nat) (m : Mem) : va_W := [(a 0, .inr (6, [.ref bn, .ref bk, .ref bm, .ref ba, .ref bl, .ref (a 1), .ref (a 2), .int (m 0 7), .int (m 0 8)])), (a 1, .inl (z 0, 12, .inl (m 1))), (a 2, .inl (z 0, 7, .inl (m 2)))]
def WDay (z : Nat → ClassId) (a : Nat → Nat) (m : Mem) : va_W := [(a 0, .inr (2, [.ref (a 1), .ref (a 13), .ref (a 14), .ref (a 2), .int (m 0 4), .int (m 0 5), .int (m 0 6), .int (m 0 7)])), (a 1, .inl (z 0, 8, .inl (m 1))), (a 2, .inl (z 0, 8, .inl (m 2))),
  (a 3, obK (m 3)), (a 4, obK (m 4)), (a 5, obC (m 5)), (a 6, obC (m 6)), (a 7, obC (m 7)), (a 8, obC (m 8)), (a 9, obC (m 9)), (a 10, obC (m 10)), (a 11, obC (m 11)), (a 12, obC (m 12)),
  (a 13, .inl (z 1, 8, .inr (.inr (.inr (.inr (fun j => some (a (5 + j)))))))), (a 14, .inl (z 2, 2, .inr (.inr (.inr (.inr (fun j => some (a (3 + j))))))))]
def WMod (z : Nat → ClassId) (a : Nat → Nat) (m : Mem) : va_W := [(a 0, .inr (7, [.ref (a 1), .ref (a 2), .ref (a 3), .ref (a 4), .ref (a 5), .ref (a 6), .ref (a 7), .ref (a 8), .ref (a 9), .ref (a 10), .ref (a 11), .ref (a 12), .ref (a 13), .ref (a 14), .ref (a 15), .int (m 0 15), .int (m 0 16), .int (m 0 17), .int (m 0 18), .ref (a 16), .ref (a 17), .ref (a 18), .ref (a 19), .int (m 0 23), .int (m 0 24), .int (m 0 25), .ref (a 20), .int (m 0 27), .int (m 0 28), .int (m 0 29), .ref (a 21), .ref (a 22), .int (m 0 32)])),
  (a 1, .inl (z 0, 7, .inl (m 1))),
  (a 2, .inl (z 0, 8, .inl (m 2))),
  (a 3, .inl (z 0, 8, .inl (m 3))),
  (a 4, .inl (z 0, 8, .inl (m 4))),
  (a 5, .inl (z 0, 8, .inl (m 5))),
  (a 6, .inl (z 0, 8, .inl (m 6))),
  (a 7, .inl (z 0, 8, .inl (m 7))),
  (a 8, .inl (z 0, 8, .inl (m 8))),
  (a 9, .inl (z 0, 8, .inl (m 9))),
  (a 10, .inl (z 0, 8, .inl (m 10))),
  (a 11, .inl (z 0, 2, .inl (m 11))),
  (a 12, .inl (z 0, 2, .inl (m 12))),
  (a 13, .inl (z 0, 2, .inl (m 13))),
  (a 14, .inl (z 0, 2, .inl (m 14))),
  (a 15, .inl (z 0, 2, .inl (m 15))),
  (a 16, .inl (z 0, 96, .inl (m 16))),
  (a 17, .inl (z 0, 48, .inl (m 17))),
  (a 18, .inl (z 0, 48, .inl (m 18))),
  (a 19, .inl (z 0, 240, .inl (m 19))),
  (a 20, .inl (z 0, 300, .inl (m 20))),
  (a 21, .inl (z 0, 8, .inl (m 21))),
  (a 22, .inl (z 0, 12, .inl (m 22)))]
theorem WDay_c (z : Nat → ClassId) (a : Nat → Nat) (m : Mem) {i : Nat} (h : i < 8) : (WDay z a m)[5 + i]? = some (a (5 + i), obC (m (5 + i))) := by
  rcases (show i = 0 ∨ i = 1 ∨ i = 2 ∨ i = 3 ∨ i = 4 ∨ i = 5 ∨ i = 6 ∨ i = 7 by omega) with rfl | rfl | rfl | rfl | rfl | rfl | rfl | rfl <;> rfl
theorem WDay_k (z : Nat → ClassId) (a : Nat → Nat) (m : Mem) {i : Nat} (h : i < 2) : (WDay z a m)[3 + i]? = some (a (3 + i), obK (m (3 + i))) := by
  rcases (show i = 0 ∨ i = 1 by omega) with rfl | rfl <;> rfl
theorem WDay_sc (z : Nat → ClassId) (a : Nat → Nat) (m : Mem) (r : Rw) {i : Nat} (h : i < 8) : (WDay z a m).set (5 + i) (a (5 + i), obC r) = WDay z a (va_up m (5 + i) r) := by
  rcases (show i = 0 ∨ i = 1 ∨ i = 2 ∨ i = 3 ∨ i = 4 ∨ i = 5 ∨ i = 6 ∨ i = 7 by omega) with rfl | rfl | rfl | rfl | rfl | rfl | rfl | rfl <;> rfl
theorem WDay_sk (z : Nat → ClassId) (a : Nat → Nat) (m : Mem) (r : Rw) {i : Nat} (h : i < 2) : (WDay z a m).set (3 + i) (a (3 + i), obK r) = WDay z a (va_up m (3 + i) r) := by
  rcases (show i = 0 ∨ i = 1 by omega) with rfl | rfl <;> rfl
section ZE2
variable {p : Program} {l : Launch} {e : Env} {R : Room} {s : State} {m : MethodId} {args : Array Value} {below : List Frame} {meth : Method} {c : Code} {H : Heap} {locs : List Loc} {cells slots : Nat} {Q : State → Prop}
variable {cc : ByteArray} {pc : Nat} {ls : Array Slot} {rest st0 : List Value} {D : va_G} {z tt : Nat → Nat} {A : Nat → Prop} {a : Nat} {ws wc w1 ws1 : va_W}
theorem vp_in_c {i : Int32} {n k : Nat} (hk : i.toNatClampNeg = k) (h0 : ¬ i < 0) (hn : k < n) : vp_in i n := fun q => q.elim h0 (fun q => by omega)
theorem z_ialdc (hexec : p.tables.exec = Jvm.exec) (hb : c.code = cc) (hK : zK D z s) (hP : va_P D vwCl ws H) (q0 : Nat) {n : Nat} {f : Nat → Int32} (ha : ws[q0]? = some (a, .inl (z 0, n, .inl f))) {i : Int32} {k : Nat} (hk : i.toNatClampNeg = k ∧ ¬ i < 0) (hn : k < n) (hdg : decode cc pc = .ok (.iaload, 1))
    (kk : W p l e R s m args below meth c H locs cells slots Q (F0 m (pc + 1) ls (.int (f k) :: rest))) : W p l e R s m args below meth c H locs cells slots Q (F0 m pc ls (.int i :: .ref a :: rest)) := by
  refine va_iald hexec hb hK hP q0 0 ha rfl (vp_in_c hk.1 hk.2 hn) hdg ?_
  rw [hk.1]
  exact kk
theorem z_aldc (hexec : p.tables.exec = Jvm.exec) (hb : c.code = cc) (hK : zK D z s) (hP : va_P D vwCl ws H) (q0 t0 : Nat) {cA : ClassId} {C : String} {n : Nat} {g : Nat → Nat} (ha : ws[q0]? = some (a, .inl (cA, n, .inr (.inr (.inr (.inr (fun j => some (g j)))))))) (ht : [(z 0, FieldType.int), (z 1, .object "FilledForOne$Comer"), (z 2, .object "FilledForOne$Kettle")][t0]? = some (cA, .object C)) {i : Int32} {k : Nat} (hk : i.toNatClampNeg = k ∧ ¬ i < 0) (hn : k < n) (hdg : decode cc pc = .ok (.aaload, 1))
    (kk : W p l e R s m args below meth c H locs cells slots Q (F0 m (pc + 1) ls (.ref (g k) :: rest))) : W p l e R s m args below meth c H locs cells slots Q (F0 m pc ls (.int i :: .ref a :: rest)) := by
  refine z_ald hexec hb hK hP q0 t0 ha ht (vp_in_c hk.1 hk.2 hn) hdg ?_
  rw [hk.1]
  exact kk
theorem z_iastc {σ : Type} (hexec : p.tables.exec = Jvm.exec) (hb : c.code = cc) (hK : zK D z s) (hP : va_P D vwCl ws H) (hD : va_D A ws) (hS : va_S A s.heap H locs) (q0 : Nat) {n : Nat} {f : Nat → Int32} (ha : ws[q0]? = some (a, .inl (z 0, n, .inl f))) {i : Int32} {x : Int32} {k : Nat} (hk : i.toNatClampNeg = k ∧ ¬ i < 0) (hn : k < n) (hdg : decode cc pc = .ok (.iastore, 1))
    (Wf : σ → va_W) (x1 : σ) (hset : ws.set q0 (a, .inl (z 0, n, .inl (upd f k x))) = Wf x1)
    (kk : ∀ (x2 : σ), x2 = x1 → ∀ (H1 : Heap) (locs1 : List Loc), va_P D vwCl (Wf x2) H1 → va_D A (Wf x2) → va_S A s.heap H1 locs1 → W p l e R s m args below meth c H1 locs1 cells slots Q (F0 m (pc + 1) ls rest)) : W p l e R s m args below meth c H locs cells slots Q (F0 m pc ls (.int x :: .int i :: .ref a :: rest)) :=
  z_iast hexec hb hK hP hD hS q0 ha (vp_in_c hk.1 hk.2 hn) hdg Wf x1 (by rw [hk.1]; exact hset) kk
theorem z_max (hexec : p.tables.exec = Jvm.exec) (hb : c.code = cc) (hml : c.maxLocals = ls.size) {own : String} {index : Nat} (hown : s.vm.findClass own = some m.cls) (hlink : (Cond.methodLink own index Lib.Math.max.name).before args s = true) (hstat : (Cond.static Lib.Math.max.name).before args s = true) (hini : (Cond.initialized "java/lang/Math").before args s = true) (hcode : (Cond.code Lib.Math.max.name Lib.Math.max.code 2 (some .int)).before args s = true)
    (hframes : 1 ≤ R.frames) (hlocals : (rest.map fun v => v.category).sum + 13 ≤ R.locals) {x y : Int32} (hdg : decode cc pc = .ok (.invokestatic index, 3)) (hc : cells ≤ R.cells) (hs : slots ≤ R.slots)
    (kk : W p l e R s m args below meth c H locs cells slots Q (F0 m (pc + 3) ls (.int (imax x y) :: rest))) : W p l e R s m args below meth c H locs cells slots Q (F0 m pc ls (.int y :: .int x :: rest)) :=
  va_mmax hexec hb hml hown hlink hstat hini hcode hframes hlocals hc hs hdg kk
theorem z_min (hexec : p.tables.exec = Jvm.exec) (hb : c.code = cc) (hml : c.maxLocals = ls.size) {own : String} {index : Nat} (hown : s.vm.findClass own = some m.cls) (hlink : (Cond.methodLink own index Lib.Math.min.name).before args s = true) (hstat : (Cond.static Lib.Math.min.name).before args s = true) (hini : (Cond.initialized "java/lang/Math").before args s = true) (hcode : (Cond.code Lib.Math.min.name Lib.Math.min.code 2 (some .int)).before args s = true)
    (hframes : 1 ≤ R.frames) (hlocals : (rest.map fun v => v.category).sum + 13 ≤ R.locals) {x y : Int32} (hdg : decode cc pc = .ok (.invokestatic index, 3)) (hc : cells ≤ R.cells) (hs : slots ≤ R.slots)
    (kk : W p l e R s m args below meth c H locs cells slots Q (F0 m (pc + 3) ls (.int (imin x y) :: rest))) : W p l e R s m args below meth c H locs cells slots Q (F0 m pc ls (.int y :: .int x :: rest)) :=
  va_mmin hexec hb hml hown hlink hstat hini hcode hframes hlocals hc hs hdg kk
theorem z_copy {σ : Type} (hexec : p.tables.exec = Jvm.exec) (hb : c.code = cc) (hml : c.maxLocals = ls.size) {own : String} {index : Nat} (hown : s.vm.findClass own = some m.cls) (hlink : (Cond.methodLink own index arraycopyName).before args s = true) (hnat : (Cond.native arraycopyName).before args s = true) (hstat : (Cond.static arraycopyName).before args s = true) (hini : (Cond.initialized "java/lang/System").before args s = true)
    (hK : zK D z s) (hP : va_P D vwCl ws H) (hD : va_D A ws) (hS : va_S A s.heap H locs) (q0 q1 : Nat) {a0 : Nat} {n0 n1 : Nat} {f g : Nat → Int32} (ha0 : ws[q0]? = some (a0, .inl (z 0, n0, .inl f))) (ha1 : ws[q1]? = some (a, .inl (z 0, n1, .inl g)))
    {n : Int32} {nn : Nat} (h3 : ¬ n < 0) (hnn : n.toNatClampNeg = nn) (h4 : nn ≤ n0) (h5 : nn ≤ n1) (hframes : 1 ≤ R.frames) (hlocals : (rest.map fun v => v.category).sum + (nativeFrameWords "java/lang/System" "arraycopy" 5 + 11) ≤ R.locals) (hdg : decode cc pc = .ok (.invokestatic index, 3))
    (Wf : σ → va_W) (x1 : σ) (hset : ws.set q1 (a, .inl (z 0, n1, .inl (va_cpy f g 0 0 nn))) = Wf x1)
    (kk : ∀ (x2 : σ), x2 = x1 → ∀ (H1 : Heap) (locs1 : List Loc), va_P D vwCl (Wf x2) H1 → va_D A (Wf x2) → va_S A s.heap H1 locs1 → W p l e R s m args below meth c H1 locs1 cells slots Q (F0 m (pc + 3) ls rest)) : W p l e R s m args below meth c H locs cells slots Q (F0 m pc ls (.int n :: .int 0 :: .ref a :: .int 0 :: .ref a0 :: rest)) := by
  have e0 : (0 : Int32).toNatClampNeg = 0 := by decide
  refine va_copyi hexec hb hml hown hlink hnat hstat hini hK hP hD hS q0 q1 0 0 ha0 ha1 rfl rfl rfl (by decide) (by decide) h3 (by rw [hnn, e0]; omega) (by rw [hnn, e0]; omega) (fun _ _ => rfl) hframes hlocals hdg (fun H1 locs1 a b c => ?_)
  rw [hnn, e0, hset] at a b
  exact kk x1 rfl H1 locs1 a b c
theorem z_tin (hexec : p.tables.exec = Jvm.exec) (hb : c.code = cc) {x K : Int32} (hc : x = K) {dflt lo hi : Int} {offs : Array Int} {len : Nat} {off : Int} {tgt : Nat} (hdg : decode cc pc = .ok (.tableswitch dflt lo hi offs, len)) (h : offs[(K.toInt - lo).toNat]? = some off ∧ ¬ K.toInt < lo ∧ ¬ hi < K.toInt) (ht : (pc : Int) + off = (tgt : Int))
    (k : W p l e R s m args below meth c H locs cells slots Q (F0 m tgt ls rest)) : W p l e R s m args below meth c H locs cells slots Q (F0 m pc ls (.int x :: rest)) := by
  subst hc
  exact lv_tableIn hexec hb hdg h.2.1 h.2.2 h.1 ht k
end ZE2
abbrev GI (p : Program) (l : Launch) (e : Env) (R : Room) (s : State) (m : MethodId) (args : Array Value) (below : List Frame) (meth : Method) (c : Code) (A : Nat → Prop) (D : va_G) (z : Nat → ClassId) (r : Int32) (ws' : va_W) (H : Heap) (locs : List Loc) (g : JFrame) : Prop := W p l e R s m args below meth c H locs 0 0 (MQ below (va_Qi (fun (r' : Int32) (_ : Unit) => r' = r) (fun _ t => zAt D z A ws' t) A) args s 0 0 A) g
abbrev GV (p : Program) (l : Launch) (e : Env) (R : Room) (s : State) (m : MethodId) (args : Array Value) (below : List Frame) (meth : Method) (c : Code) (A : Nat → Prop) (D : va_G) (z : Nat → ClassId) (ws' : va_W) (H : Heap) (locs : List Loc) (g : JFrame) : Prop := W p l e R s m args below meth c H locs 0 0 (MQ below (va_Qv (fun (_ : Unit) => True) (fun _ t => zAt D z A ws' t) A) args s 0 0 A) g
abbrev GQ (p : Program) (l : Launch) (e : Env) (R : Room) (s : State) (m : MethodId) (args : Array Value) (below : List Frame) (meth : Method) (c : Code) (A : Nat → Prop) (D : va_G) (z : Nat → ClassId) (r : Option Nat) (ws' : va_W) (H : Heap) (locs : List Loc) (g : JFrame) : Prop := W p l e R s m args below meth c H locs 0 0 (MQ below (va_Qq (fun (r' : Option Nat) (_ : Unit) => r' = r) (fun _ t => zAt D z A ws' t) A) args s 0 0 A) g
end
section
def pX1_become (fu : Nat) (m1 : Rw) (p1 : Int32) (p2 : Int32) : Option Rw :=
  lt' (upd m1 0 p1) fun y1 =>
  lt' (upd y1 1 p2) fun y2 =>
  some y2
set_option maxHeartbeats 4000000 in
set_option maxRecDepth 100000 in
theorem tX1_become (l : Launch) (D : va_G) (z tt : Nat → Nat) (a1 : Nat) (m1 : Rw) (p1 : Int32) (p2 : Int32) (fu : Nat) (m1' : Rw) (hf : pX1_become fu m1 p1 p2 = some m1') : MetV l yX1_become wsX1_become ({ frames := 0, cells := 0, slots := 0, locals := 0 } : Room) D z tt ([.ref a1, .int p1, .int p2] : List Value) (WCom a1 m1) (WCom a1 m1') := by
  intro sz
  refine Met.ofW (cc := cX1_become) (maxL := 3) (ret := none) (by decide) rfl ?_
  intro p e s m args below meth c s₁ B hml hv
  obtain ⟨rfl, hsz, hP, hK, hD0, hT, hN⟩ := hv
  have hx := B.exec
  have hb := B.bytes
  have hr := B.returns
  have hts := atoms_spec (ws := wsX1_become) B.pre
  have hown : s.vm.findClass RX1 = some m.cls := findClass_of_methodNamed B.named
  have hlocks := B.notSynchronized
  subst hsz
  have hD := hD0.self (sz := s.heap.size)
  generalize hAe : va_A (WCom a1 m1) s.heap.size = A at hD hT ⊢
  have hA : ∀ q : Nat, s.heap.size ≤ q → A q := fun q h => by rw [← hAe]; exact Or.inr h
  have hS : va_S A s.heap s.heap [] := va_S.rf
  have hl := lv_entry ([.ref a1, .int p1, .int p2] : List Value) (n := 3) (Nat.le_of_ble_eq_true rfl)
  rw [lg_entry_eq]
  generalize (lg_sl ([.ref a1, .int p1, .int p2] : List Value) ++ List.replicate (3 - (lg_sl ([.ref a1, .int p1, .int p2] : List Value)).length) Slot.unset).toArray = ls at hl ⊢
  have hl : lv_has ls 3 [(0, .ref a1), (1, .int p1), (2, .int p2)] := hl
  have iX1 : ∀ w ∈ wsX10, w ∈ wsX1_become := by decide +kernel
  unfold pX1_become at hf
  refine lv_aload_n hx hb dX1_become_0 rfl (lv_at hl 0 rfl) ?_
  refine lv_iload_n hx hb dX1_become_1 rfl (lv_at hl 1 rfl) ?_
  refine z_put (ci := 1) (v := .int p1) (ty := .int) (C := RX1) (T := TX1) (N := 7) hx hb hts iX1 tyX1 tyX1_ok nmX1 hown hK hP hD hS 0 rfl rfl 0 (by decide) (hts (.fieldLink RX1 9 "FilledForOne$Comer" "kind" "I") (by decide +kernel)) (fun _ h9 => h9) rfl (by decide +kernel) rfl rfl (Nat.le_of_ble_eq_true rfl) dX1_become_2 (fun (w9 : Rw) => (WCom a1 w9)) (upd m1 0 p1) rfl (fun y1 ey1 H locs hP hD hS => ?_)
  have hf := lt_use ey1 hf
  refine lv_aload_n hx hb dX1_become_5 rfl (lv_at hl 0 rfl) ?_
  refine lv_iload_n hx hb dX1_become_6 rfl (lv_at hl 2 rfl) ?_
  refine z_put (ci := 1) (v := .int p2) (ty := .int) (C := RX1) (T := TX1) (N := 7) hx hb hts iX1 tyX1 tyX1_ok nmX1 hown hK hP hD hS 0 rfl rfl 1 (by decide) (hts (.fieldLink RX1 15 "FilledForOne$Comer" "figure" "I") (by decide +kernel)) (fun _ h9 => h9) rfl (by decide +kernel) rfl rfl (Nat.le_of_ble_eq_true rfl) dX1_become_7 (fun (w9 : Rw) => (WCom a1 w9)) (upd y1 1 p2) rfl (fun y2 ey2 H locs hP hD hS => ?_)
  have hf := lt_use ey2 hf
  cases hf
  exact ret_v hx hb hr hlocks hK hP hD hS dX1_become_10
def pX1_waited (fu : Nat) (m1 : Rw) : Option Int32 :=
  if (m1 5) = 2 then
    some ((m1 6) - (m1 2))
  else
    if (m1 5) = 3 then
      some (m1 4)
    else
      some 0
set_option maxHeartbeats 4000000 in
set_option maxRecDepth 100000 in
theorem tX1_waited (l : Launch) (D : va_G) (z tt : Nat → Nat) (a1 : Nat) (m1 : Rw)  (fu : Nat) (rr : Int32) (hf : pX1_waited fu m1 = some rr) : MetI l yX1_waited wsX1_waited ({ frames := 0, cells := 0, slots := 0, locals := 0 } : Room) D z tt ([.ref a1] : List Value) (WCom a1 m1) rr (WCom a1 m1) := by
  intro sz
  refine Met.ofW (cc := cX1_waited) (maxL := 1) (ret := (some .int)) (by decide) rfl ?_
  intro p e s m args below meth c s₁ B hml hv
  obtain ⟨rfl, hsz, hP, hK, hD0, hT, hN⟩ := hv
  have hx := B.exec
  have hb := B.bytes
  have hr := B.returns
  have hts := atoms_spec (ws := wsX1_waited) B.pre
  have hown : s.vm.findClass RX1 = some m.cls := findClass_of_methodNamed B.named
  have hlocks := B.notSynchronized
  subst hsz
  have hD := hD0.self (sz := s.heap.size)
  generalize hAe : va_A (WCom a1 m1) s.heap.size = A at hD hT ⊢
  have hA : ∀ q : Nat, s.heap.size ≤ q → A q := fun q h => by rw [← hAe]; exact Or.inr h
  have hS : va_S A s.heap s.heap [] := va_S.rf
  have hl := lv_entry ([.ref a1] : List Value) (n := 1) (Nat.le_of_ble_eq_true rfl)
  rw [lg_entry_eq]
  generalize (lg_sl ([.ref a1] : List Value) ++ List.replicate (1 - (lg_sl ([.ref a1] : List Value)).length) Slot.unset).toArray = ls at hl ⊢
  have hl : lv_has ls 1 [(0, .ref a1)] := hl
  have iX1 : ∀ w ∈ wsX10, w ∈ wsX1_waited := by decide +kernel
  unfold pX1_waited at hf
  refine lv_aload_n hx hb dX1_waited_0 rfl (lv_at hl 0 rfl) ?_
  refine va_get (D := D) (ci := 1) (v := .int (m1 5)) (C := RX1) (T := TX1) (N := 7) hx hb hts iX1 hown hK hP 0 rfl rfl 5 (by decide) (hts (.fieldLink RX1 31 "FilledForOne$Comer" "state" "I") (by decide +kernel)) (fun _ h9 => h9) rfl dX1_waited_1 ?_
  refine lv_iconst (v := 2) hx hb dX1_waited_4 (by decide) ?_
  refine lv_icmp_ne (tgt := 18) hx hb dX1_waited_5 (by decide) (fun c1 => ?_) (fun c1 => ?_)
  · have hf := if_f c1 hf
    refine lv_aload_n hx hb dX1_waited_18 rfl (lv_at hl 0 rfl) ?_
    refine va_get (D := D) (ci := 1) (v := .int (m1 5)) (C := RX1) (T := TX1) (N := 7) hx hb hts iX1 hown hK hP 0 rfl rfl 5 (by decide) (hts (.fieldLink RX1 31 "FilledForOne$Comer" "state" "I") (by decide +kernel)) (fun _ h9 => h9) rfl dX1_waited_19 ?_
    refine lv_iconst (v := 3) hx hb dX1_waited_22 (by decide) ?_
    refine lv_icmp_ne (tgt := 33) hx hb dX1_waited_23 (by decide) (fun c2 => ?_) (fun c2 => ?_)
    · have hf := if_f c2 hf
      refine lv_iconst (v := 0) hx hb dX1_waited_33 (by decide) ?_
      cases hf
      exact ret_i hx hb hr hlocks hK hP hD hS dX1_waited_34
    · have hf := if_t c2 hf
      refine lv_aload_n hx hb dX1_waited_26 rfl (lv_at hl 0 rfl) ?_
      refine va_get (D := D) (ci := 1) (v := .int (m1 4)) (C := RX1) (T := TX1) (N := 7) hx hb hts iX1 hown hK hP 0 rfl rfl 4 (by decide) (hts (.fieldLink RX1 28 "FilledForOne$Comer" "patience" "I") (by decide +kernel)) (fun _ h9 => h9) rfl dX1_waited_27 ?_
      refine lv_goto (tgt := 34) hx hb dX1_waited_30 (by decide) ?_
      cases hf
      exact ret_i hx hb hr hlocks hK hP hD hS dX1_waited_34
  · have hf := if_t c1 hf
    refine lv_aload_n hx hb dX1_waited_8 rfl (lv_at hl 0 rfl) ?_
    refine va_get (D := D) (ci := 1) (v := .int (m1 6)) (C := RX1) (T := TX1) (N := 7) hx hb hts iX1 hown hK hP 0 rfl rfl 6 (by decide) (hts (.fieldLink RX1 34 "FilledForOne$Comer" "servedAt" "I") (by decide +kernel)) (fun _ h9 => h9) rfl dX1_waited_9 ?_
    refine lv_aload_n hx hb dX1_waited_12 rfl (lv_at hl 0 rfl) ?_
    refine va_get (D := D) (ci := 1) (v := .int (m1 2)) (C := RX1) (T := TX1) (N := 7) hx hb hts iX1 hown hK hP 0 rfl rfl 2 (by decide) (hts (.fieldLink RX1 22 "FilledForOne$Comer" "minute" "I") (by decide +kernel)) (fun _ h9 => h9) rfl dX1_waited_13 ?_
    refine lv_isub hx hb dX1_waited_16 ?_
    cases hf
    exact ret_i hx hb hr hlocks hK hP hD hS dX1_waited_17
def pX1_tell (fu : Nat) (m1 : Rw) (p1 : Int32) : Option Int32 :=
  if p1 = 0 then
    some (m1 0)
  else
  if p1 = 1 then
    some (m1 1)
  else
  if p1 = 2 then
    some (m1 2)
  else
  if p1 = 3 then
    some (m1 3)
  else
  if p1 = 4 then
    some (m1 4)
  else
  if p1 = 5 then
    some (m1 5)
  else
  bd (pX1_waited fu m1) fun r7 =>
  some r7
set_option maxHeartbeats 4000000 in
set_option maxRecDepth 100000 in
theorem tX1_tell (l : Launch) (D : va_G) (z tt : Nat → Nat) (a1 : Nat) (m1 : Rw) (p1 : Int32) (fu : Nat) (rr : Int32) (hf : pX1_tell fu m1 p1 = some rr) : MetI l yX1_tell wsX1_tell ({ frames := 1, cells := 0, slots := 0, locals := 20 } : Room) D z tt ([.ref a1, .int p1] : List Value) (WCom a1 m1) rr (WCom a1 m1) := by
  intro sz
  refine Met.ofW (cc := cX1_tell) (maxL := 2) (ret := (some .int)) (by decide) rfl ?_
  intro p e s m args below meth c s₁ B hml hv
  obtain ⟨rfl, hsz, hP, hK, hD0, hT, hN⟩ := hv
  have hx := B.exec
  have hb := B.bytes
  have hr := B.returns
  have hts := atoms_spec (ws := wsX1_tell) B.pre
  have hown : s.vm.findClass RX1 = some m.cls := findClass_of_methodNamed B.named
  have hlocks := B.notSynchronized
  subst hsz
  have hD := hD0.self (sz := s.heap.size)
  generalize hAe : va_A (WCom a1 m1) s.heap.size = A at hD hT ⊢
  have hA : ∀ q : Nat, s.heap.size ≤ q → A q := fun q h => by rw [← hAe]; exact Or.inr h
  have hS : va_S A s.heap s.heap [] := va_S.rf
  have hl := lv_entry ([.ref a1, .int p1] : List Value) (n := 2) (Nat.le_of_ble_eq_true rfl)
  rw [lg_entry_eq]
  generalize (lg_sl ([.ref a1, .int p1] : List Value) ++ List.replicate (2 - (lg_sl ([.ref a1, .int p1] : List Value)).length) Slot.unset).toArray = ls at hl ⊢
  have hl : lv_has ls 2 [(0, .ref a1), (1, .int p1)] := hl
  have iX1 : ∀ w ∈ wsX10, w ∈ wsX1_tell := by decide +kernel
  unfold pX1_tell at hf
  refine lv_iload_n hx hb dX1_tell_0 rfl (lv_at hl 1 rfl) ?_
  by_cases c1 : p1 = 0
  · have hf := if_t c1 hf
    refine z_tin (K := 0) hx hb c1 dX1_tell_1 ⟨rfl, by decide, by decide⟩ (tgt := 40) (by decide) ?_
    refine lv_aload_n hx hb dX1_tell_40 rfl (lv_at hl 0 rfl) ?_
    refine va_get (D := D) (ci := 1) (v := .int (m1 0)) (C := RX1) (T := TX1) (N := 7) hx hb hts iX1 hown hK hP 0 rfl rfl 0 (by decide) (hts (.fieldLink RX1 9 "FilledForOne$Comer" "kind" "I") (by decide +kernel)) (fun _ h9 => h9) rfl dX1_tell_41 ?_
    cases hf
    exact ret_i hx hb hr hlocks hK hP hD hS dX1_tell_44
  have hf := if_f c1 hf
  by_cases c2 : p1 = 1
  · have hf := if_t c2 hf
    refine z_tin (K := 1) hx hb c2 dX1_tell_1 ⟨rfl, by decide, by decide⟩ (tgt := 45) (by decide) ?_
    refine lv_aload_n hx hb dX1_tell_45 rfl (lv_at hl 0 rfl) ?_
    refine va_get (D := D) (ci := 1) (v := .int (m1 1)) (C := RX1) (T := TX1) (N := 7) hx hb hts iX1 hown hK hP 0 rfl rfl 1 (by decide) (hts (.fieldLink RX1 15 "FilledForOne$Comer" "figure" "I") (by decide +kernel)) (fun _ h9 => h9) rfl dX1_tell_46 ?_
    cases hf
    exact ret_i hx hb hr hlocks hK hP hD hS dX1_tell_49
  have hf := if_f c2 hf
  by_cases c3 : p1 = 2
  · have hf := if_t c3 hf
    refine z_tin (K := 2) hx hb c3 dX1_tell_1 ⟨rfl, by decide, by decide⟩ (tgt := 50) (by decide) ?_
    refine lv_aload_n hx hb dX1_tell_50 rfl (lv_at hl 0 rfl) ?_
    refine va_get (D := D) (ci := 1) (v := .int (m1 2)) (C := RX1) (T := TX1) (N := 7) hx hb hts iX1 hown hK hP 0 rfl rfl 2 (by decide) (hts (.fieldLink RX1 22 "FilledForOne$Comer" "minute" "I") (by decide +kernel)) (fun _ h9 => h9) rfl dX1_tell_51 ?_
    cases hf
    exact ret_i hx hb hr hlocks hK hP hD hS dX1_tell_54
  have hf := if_f c3 hf
  by_cases c4 : p1 = 3
  · have hf := if_t c4 hf
    refine z_tin (K := 3) hx hb c4 dX1_tell_1 ⟨rfl, by decide, by decide⟩ (tgt := 55) (by decide) ?_
    refine lv_aload_n hx hb dX1_tell_55 rfl (lv_at hl 0 rfl) ?_
    refine va_get (D := D) (ci := 1) (v := .int (m1 3)) (C := RX1) (T := TX1) (N := 7) hx hb hts iX1 hown hK hP 0 rfl rfl 3 (by decide) (hts (.fieldLink RX1 25 "FilledForOne$Comer" "wants" "I") (by decide +kernel)) (fun _ h9 => h9) rfl dX1_tell_56 ?_
    cases hf
    exact ret_i hx hb hr hlocks hK hP hD hS dX1_tell_59
  have hf := if_f c4 hf
  by_cases c5 : p1 = 4
  · have hf := if_t c5 hf
    refine z_tin (K := 4) hx hb c5 dX1_tell_1 ⟨rfl, by decide, by decide⟩ (tgt := 60) (by decide) ?_
    refine lv_aload_n hx hb dX1_tell_60 rfl (lv_at hl 0 rfl) ?_
    refine va_get (D := D) (ci := 1) (v := .int (m1 4)) (C := RX1) (T := TX1) (N := 7) hx hb hts iX1 hown hK hP 0 rfl rfl 4 (by decide) (hts (.fieldLink RX1 28 "FilledForOne$Comer" "patience" "I") (by decide +kernel)) (fun _ h9 => h9) rfl dX1_tell_61 ?_
    cases hf
    exact ret_i hx hb hr hlocks hK hP hD hS dX1_tell_64
  have hf := if_f c5 hf
  by_cases c6 : p1 = 5
  · have hf := if_t c6 hf
    refine z_tin (K := 5) hx hb c6 dX1_tell_1 ⟨rfl, by decide, by decide⟩ (tgt := 65) (by decide) ?_
    refine lv_aload_n hx hb dX1_tell_65 rfl (lv_at hl 0 rfl) ?_
    refine va_get (D := D) (ci := 1) (v := .int (m1 5)) (C := RX1) (T := TX1) (N := 7) hx hb hts iX1 hown hK hP 0 rfl rfl 5 (by decide) (hts (.fieldLink RX1 31 "FilledForOne$Comer" "state" "I") (by decide +kernel)) (fun _ h9 => h9) rfl dX1_tell_66 ?_
    cases hf
    exact ret_i hx hb hr hlocks hK hP hD hS dX1_tell_69
  have hf := if_f c6 hf
  refine lv_tableOut (tgt := 70) hx hb dX1_tell_1 (by have qc1 := lv_neT c1 (show (0 : Int32).toInt = 0 from by decide); have qc2 := lv_neT c2 (show (1 : Int32).toInt = 1 from by decide); have qc3 := lv_neT c3 (show (2 : Int32).toInt = 2 from by decide); have qc4 := lv_neT c4 (show (3 : Int32).toInt = 3 from by decide); have qc5 := lv_neT c5 (show (4 : Int32).toInt = 4 from by decide); have qc6 := lv_neT c6 (show (5 : Int32).toInt = 5 from by decide); omega) (by decide) ?_
  refine lv_aload_n hx hb dX1_tell_70 rfl (lv_at hl 0 rfl) ?_
  obtain ⟨r7, q8, hf⟩ := bd_use hf
  refine z_goI (va_runV (As := []) (rest := []) ⟨hx, hb, hml, hown, hts⟩ (tX1_waited l D z tt a1 m1  fu r7 q8 _) (cwV 0 hts gX1_tell_X1_waited rfl rfl rfl (by decide +kernel) ⟨Nat.le_of_ble_eq_true rfl, Nat.le_of_ble_eq_true rfl⟩) (z_preV hK hP hD hS hA hT hN [0] rfl rfl (va_recv hK hP (ci := 1) (q0 := 0) rfl rfl)) rfl rfl hl.1 rfl (lv_room (Nat.le_of_ble_eq_true rfl)) dX1_tell_71 ⟨Nat.zero_le _, Nat.zero_le _⟩) hP hD hS hA [0] rfl rfl rfl (ws1 := (WCom a1 m1)) rfl (fun H locs hP hD hS => ?_)
  cases hf
  exact ret_i hx hb hr hlocks hK hP hD hS dX1_tell_74
def pX1_copy (fu : Nat) (m1 : Rw) (m2 : Rw) : Option Rw :=
  bd (pX1_become fu m1 (m2 0) (m2 1)) fun y1 =>
  lt' (upd y1 2 (m2 2)) fun y3 =>
  lt' (upd y3 3 (m2 3)) fun y4 =>
  lt' (upd y4 4 (m2 4)) fun y5 =>
  lt' (upd y5 5 (m2 5)) fun y6 =>
  lt' (upd y6 6 (m2 6)) fun y7 =>
  some y7
set_option maxHeartbeats 4000000 in
set_option maxRecDepth 100000 in
theorem tX1_copy (l : Launch) (D : va_G) (z tt : Nat → Nat) (a1 : Nat) (a2 : Nat) (m1 : Rw) (m2 : Rw)  (fu : Nat) (m1' : Rw) (hf : pX1_copy fu m1 m2 = some m1') : MetV l yX1_copy wsX1_copy ({ frames := 1, cells := 0, slots := 0, locals := 22 } : Room) D z tt ([.ref a1, .ref a2] : List Value) (WCom a1 m1 ++ (WCom a2 m2)) (WCom a1 m1' ++ (WCom a2 m2)) := by
  intro sz
  refine Met.ofW (cc := cX1_copy) (maxL := 2) (ret := none) (by decide) rfl ?_
  intro p e s m args below meth c s₁ B hml hv
  obtain ⟨rfl, hsz, hP, hK, hD0, hT, hN⟩ := hv
  have hx := B.exec
  have hb := B.bytes
  have hr := B.returns
  have hts := atoms_spec (ws := wsX1_copy) B.pre
  have hown : s.vm.findClass RX1 = some m.cls := findClass_of_methodNamed B.named
  have hlocks := B.notSynchronized
  subst hsz
  have hD := hD0.self (sz := s.heap.size)
  generalize hAe : va_A (WCom a1 m1 ++ (WCom a2 m2)) s.heap.size = A at hD hT ⊢
  have hA : ∀ q : Nat, s.heap.size ≤ q → A q := fun q h => by rw [← hAe]; exact Or.inr h
  have hS : va_S A s.heap s.heap [] := va_S.rf
  have hl := lv_entry ([.ref a1, .ref a2] : List Value) (n := 2) (Nat.le_of_ble_eq_true rfl)
  rw [lg_entry_eq]
  generalize (lg_sl ([.ref a1, .ref a2] : List Value) ++ List.replicate (2 - (lg_sl ([.ref a1, .ref a2] : List Value)).length) Slot.unset).toArray = ls at hl ⊢
  have hl : lv_has ls 2 [(0, .ref a1), (1, .ref a2)] := hl
  have iX1 : ∀ w ∈ wsX10, w ∈ wsX1_copy := by decide +kernel
  unfold pX1_copy at hf
  refine lv_aload_n hx hb dX1_copy_0 rfl (lv_at hl 0 rfl) ?_
  refine lv_aload_n hx hb dX1_copy_1 rfl (lv_at hl 1 rfl) ?_
  refine va_get (D := D) (ci := 1) (v := .int (m2 0)) (C := RX1) (T := TX1) (N := 7) hx hb hts iX1 hown hK hP 1 rfl rfl 0 (by decide) (hts (.fieldLink RX1 9 "FilledForOne$Comer" "kind" "I") (by decide +kernel)) (fun _ h9 => h9) rfl dX1_copy_2 ?_
  refine lv_aload_n hx hb dX1_copy_5 rfl (lv_at hl 1 rfl) ?_
  refine va_get (D := D) (ci := 1) (v := .int (m2 1)) (C := RX1) (T := TX1) (N := 7) hx hb hts iX1 hown hK hP 1 rfl rfl 1 (by decide) (hts (.fieldLink RX1 15 "FilledForOne$Comer" "figure" "I") (by decide +kernel)) (fun _ h9 => h9) rfl dX1_copy_6 ?_
  obtain ⟨y1, q2, hf⟩ := bd_use hf
  refine z_goV (va_runV (As := [.int (m2 0), .int (m2 1)]) (rest := []) ⟨hx, hb, hml, hown, hts⟩ (tX1_become l D z tt a1 m1 (m2 0) (m2 1) fu y1 q2 _) (cwV 2 hts gX1_copy_X1_become rfl rfl rfl (by decide +kernel) ⟨Nat.le_of_ble_eq_true rfl, Nat.le_of_ble_eq_true rfl⟩) (z_preV hK hP hD hS hA hT hN [0] rfl rfl (va_recv hK hP (ci := 1) (q0 := 0) rfl rfl)) rfl rfl hl.1 rfl (lv_room (Nat.le_of_ble_eq_true rfl)) dX1_copy_9 ⟨Nat.zero_le _, Nat.zero_le _⟩) hP hD hS hA [0] rfl rfl rfl (ws1 := (WCom a1 y1 ++ (WCom a2 m2))) rfl (fun H locs hP hD hS => ?_)
  refine lv_aload_n hx hb dX1_copy_12 rfl (lv_at hl 0 rfl) ?_
  refine lv_aload_n hx hb dX1_copy_13 rfl (lv_at hl 1 rfl) ?_
  refine va_get (D := D) (ci := 1) (v := .int (m2 2)) (C := RX1) (T := TX1) (N := 7) hx hb hts iX1 hown hK hP 1 rfl rfl 2 (by decide) (hts (.fieldLink RX1 22 "FilledForOne$Comer" "minute" "I") (by decide +kernel)) (fun _ h9 => h9) rfl dX1_copy_14 ?_
  refine z_put (ci := 1) (v := .int (m2 2)) (ty := .int) (C := RX1) (T := TX1) (N := 7) hx hb hts iX1 tyX1 tyX1_ok nmX1 hown hK hP hD hS 0 rfl rfl 2 (by decide) (hts (.fieldLink RX1 22 "FilledForOne$Comer" "minute" "I") (by decide +kernel)) (fun _ h9 => h9) rfl (by decide +kernel) rfl rfl (Nat.le_of_ble_eq_true rfl) dX1_copy_17 (fun (w9 : Rw) => (WCom a1 w9 ++ (WCom a2 m2))) (upd y1 2 (m2 2)) rfl (fun y3 ey3 H locs hP hD hS => ?_)
  have hf := lt_use ey3 hf
  refine lv_aload_n hx hb dX1_copy_20 rfl (lv_at hl 0 rfl) ?_
  refine lv_aload_n hx hb dX1_copy_21 rfl (lv_at hl 1 rfl) ?_
  refine va_get (D := D) (ci := 1) (v := .int (m2 3)) (C := RX1) (T := TX1) (N := 7) hx hb hts iX1 hown hK hP 1 rfl rfl 3 (by decide) (hts (.fieldLink RX1 25 "FilledForOne$Comer" "wants" "I") (by decide +kernel)) (fun _ h9 => h9) rfl dX1_copy_22 ?_
  refine z_put (ci := 1) (v := .int (m2 3)) (ty := .int) (C := RX1) (T := TX1) (N := 7) hx hb hts iX1 tyX1 tyX1_ok nmX1 hown hK hP hD hS 0 rfl rfl 3 (by decide) (hts (.fieldLink RX1 25 "FilledForOne$Comer" "wants" "I") (by decide +kernel)) (fun _ h9 => h9) rfl (by decide +kernel) rfl rfl (Nat.le_of_ble_eq_true rfl) dX1_copy_25 (fun (w9 : Rw) => (WCom a1 w9 ++ (WCom a2 m2))) (upd y3 3 (m2 3)) rfl (fun y4 ey4 H locs hP hD hS => ?_)
  have hf := lt_use ey4 hf
  refine lv_aload_n hx hb dX1_copy_28 rfl (lv_at hl 0 rfl) ?_
  refine lv_aload_n hx hb dX1_copy_29 rfl (lv_at hl 1 rfl) ?_
  refine va_get (D := D) (ci := 1) (v := .int (m2 4)) (C := RX1) (T := TX1) (N := 7) hx hb hts iX1 hown hK hP 1 rfl rfl 4 (by decide) (hts (.fieldLink RX1 28 "FilledForOne$Comer" "patience" "I") (by decide +kernel)) (fun _ h9 => h9) rfl dX1_copy_30 ?_
  refine z_put (ci := 1) (v := .int (m2 4)) (ty := .int) (C := RX1) (T := TX1) (N := 7) hx hb hts iX1 tyX1 tyX1_ok nmX1 hown hK hP hD hS 0 rfl rfl 4 (by decide) (hts (.fieldLink RX1 28 "FilledForOne$Comer" "patience" "I") (by decide +kernel)) (fun _ h9 => h9) rfl (by decide +kernel) rfl rfl (Nat.le_of_ble_eq_true rfl) dX1_copy_33 (fun (w9 : Rw) => (WCom a1 w9 ++ (WCom a2 m2))) (upd y4 4 (m2 4)) rfl (fun y5 ey5 H locs hP hD hS => ?_)
  have hf := lt_use ey5 hf
  refine lv_aload_n hx hb dX1_copy_36 rfl (lv_at hl 0 rfl) ?_
  refine lv_aload_n hx hb dX1_copy_37 rfl (lv_at hl 1 rfl) ?_
  refine va_get (D := D) (ci := 1) (v := .int (m2 5)) (C := RX1) (T := TX1) (N := 7) hx hb hts iX1 hown hK hP 1 rfl rfl 5 (by decide) (hts (.fieldLink RX1 31 "FilledForOne$Comer" "state" "I") (by decide +kernel)) (fun _ h9 => h9) rfl dX1_copy_38 ?_
  refine z_put (ci := 1) (v := .int (m2 5)) (ty := .int) (C := RX1) (T := TX1) (N := 7) hx hb hts iX1 tyX1 tyX1_ok nmX1 hown hK hP hD hS 0 rfl rfl 5 (by decide) (hts (.fieldLink RX1 31 "FilledForOne$Comer" "state" "I") (by decide +kernel)) (fun _ h9 => h9) rfl (by decide +kernel) rfl rfl (Nat.le_of_ble_eq_true rfl) dX1_copy_41 (fun (w9 : Rw) => (WCom a1 w9 ++ (WCom a2 m2))) (upd y5 5 (m2 5)) rfl (fun y6 ey6 H locs hP hD hS => ?_)
  have hf := lt_use ey6 hf
  refine lv_aload_n hx hb dX1_copy_44 rfl (lv_at hl 0 rfl) ?_
  refine lv_aload_n hx hb dX1_copy_45 rfl (lv_at hl 1 rfl) ?_
  refine va_get (D := D) (ci := 1) (v := .int (m2 6)) (C := RX1) (T := TX1) (N := 7) hx hb hts iX1 hown hK hP 1 rfl rfl 6 (by decide) (hts (.fieldLink RX1 34 "FilledForOne$Comer" "servedAt" "I") (by decide +kernel)) (fun _ h9 => h9) rfl dX1_copy_46 ?_
  refine z_put (ci := 1) (v := .int (m2 6)) (ty := .int) (C := RX1) (T := TX1) (N := 7) hx hb hts iX1 tyX1 tyX1_ok nmX1 hown hK hP hD hS 0 rfl rfl 6 (by decide) (hts (.fieldLink RX1 34 "FilledForOne$Comer" "servedAt" "I") (by decide +kernel)) (fun _ h9 => h9) rfl (by decide +kernel) rfl rfl (Nat.le_of_ble_eq_true rfl) dX1_copy_49 (fun (w9 : Rw) => (WCom a1 w9 ++ (WCom a2 m2))) (upd y6 6 (m2 6)) rfl (fun y7 ey7 H locs hP hD hS => ?_)
  have hf := lt_use ey7 hf
  cases hf
  exact ret_v hx hb hr hlocks hK hP hD hS dX1_copy_52
def pX3_copy (fu : Nat) (m1 : Rw) (m2 : Rw) : Option Rw :=
  lt' (upd m1 0 (m2 0)) fun y1 =>
  lt' (upd y1 1 (m2 1)) fun y2 =>
  lt' (upd y2 2 (m2 2)) fun y3 =>
  lt' (upd y3 3 (m2 3)) fun y4 =>
  lt' (upd y4 4 (m2 4)) fun y5 =>
  some y5
set_option maxHeartbeats 4000000 in
set_option maxRecDepth 100000 in
theorem tX3_copy (l : Launch) (D : va_G) (z tt : Nat → Nat) (a1 : Nat) (a2 : Nat) (m1 : Rw) (m2 : Rw)  (fu : Nat) (m1' : Rw) (hf : pX3_copy fu m1 m2 = some m1') : MetV l yX3_copy wsX3_copy ({ frames := 0, cells := 0, slots := 0, locals := 0 } : Room) D z tt ([.ref a1, .ref a2] : List Value) (WKet a1 m1 ++ (WKet a2 m2)) (WKet a1 m1' ++ (WKet a2 m2)) := by
  intro sz
  refine Met.ofW (cc := cX3_copy) (maxL := 2) (ret := none) (by decide) rfl ?_
  intro p e s m args below meth c s₁ B hml hv
  obtain ⟨rfl, hsz, hP, hK, hD0, hT, hN⟩ := hv
  have hx := B.exec
  have hb := B.bytes
  have hr := B.returns
  have hts := atoms_spec (ws := wsX3_copy) B.pre
  have hown : s.vm.findClass RX3 = some m.cls := findClass_of_methodNamed B.named
  have hlocks := B.notSynchronized
  subst hsz
  have hD := hD0.self (sz := s.heap.size)
  generalize hAe : va_A (WKet a1 m1 ++ (WKet a2 m2)) s.heap.size = A at hD hT ⊢
  have hA : ∀ q : Nat, s.heap.size ≤ q → A q := fun q h => by rw [← hAe]; exact Or.inr h
  have hS : va_S A s.heap s.heap [] := va_S.rf
  have hl := lv_entry ([.ref a1, .ref a2] : List Value) (n := 2) (Nat.le_of_ble_eq_true rfl)
  rw [lg_entry_eq]
  generalize (lg_sl ([.ref a1, .ref a2] : List Value) ++ List.replicate (2 - (lg_sl ([.ref a1, .ref a2] : List Value)).length) Slot.unset).toArray = ls at hl ⊢
  have hl : lv_has ls 2 [(0, .ref a1), (1, .ref a2)] := hl
  have iX3 : ∀ w ∈ wsX30, w ∈ wsX3_copy := by decide +kernel
  unfold pX3_copy at hf
  refine lv_aload_n hx hb dX3_copy_0 rfl (lv_at hl 0 rfl) ?_
  refine lv_aload_n hx hb dX3_copy_1 rfl (lv_at hl 1 rfl) ?_
  refine va_get (D := D) (ci := 3) (v := .int (m2 0)) (C := RX3) (T := TX3) (N := 5) hx hb hts iX3 hown hK hP 1 rfl rfl 0 (by decide) (hts (.fieldLink RX3 9 "FilledForOne$Kettle" "level" "I") (by decide +kernel)) (fun _ h9 => h9) rfl dX3_copy_2 ?_
  refine z_put (ci := 3) (v := .int (m2 0)) (ty := .int) (C := RX3) (T := TX3) (N := 5) hx hb hts iX3 tyX3 tyX3_ok nmX3 hown hK hP hD hS 0 rfl rfl 0 (by decide) (hts (.fieldLink RX3 9 "FilledForOne$Kettle" "level" "I") (by decide +kernel)) (fun _ h9 => h9) rfl (by decide +kernel) rfl rfl (Nat.le_of_ble_eq_true rfl) dX3_copy_5 (fun (w9 : Rw) => (WKet a1 w9 ++ (WKet a2 m2))) (upd m1 0 (m2 0)) rfl (fun y1 ey1 H locs hP hD hS => ?_)
  have hf := lt_use ey1 hf
  refine lv_aload_n hx hb dX3_copy_8 rfl (lv_at hl 0 rfl) ?_
  refine lv_aload_n hx hb dX3_copy_9 rfl (lv_at hl 1 rfl) ?_
  refine va_get (D := D) (ci := 3) (v := .int (m2 1)) (C := RX3) (T := TX3) (N := 5) hx hb hts iX3 hown hK hP 1 rfl rfl 1 (by decide) (hts (.fieldLink RX3 15 "FilledForOne$Kettle" "warmth" "I") (by decide +kernel)) (fun _ h9 => h9) rfl dX3_copy_10 ?_
  refine z_put (ci := 3) (v := .int (m2 1)) (ty := .int) (C := RX3) (T := TX3) (N := 5) hx hb hts iX3 tyX3 tyX3_ok nmX3 hown hK hP hD hS 0 rfl rfl 1 (by decide) (hts (.fieldLink RX3 15 "FilledForOne$Kettle" "warmth" "I") (by decide +kernel)) (fun _ h9 => h9) rfl (by decide +kernel) rfl rfl (Nat.le_of_ble_eq_true rfl) dX3_copy_13 (fun (w9 : Rw) => (WKet a1 w9 ++ (WKet a2 m2))) (upd y1 1 (m2 1)) rfl (fun y2 ey2 H locs hP hD hS => ?_)
  have hf := lt_use ey2 hf
  refine lv_aload_n hx hb dX3_copy_16 rfl (lv_at hl 0 rfl) ?_
  refine lv_aload_n hx hb dX3_copy_17 rfl (lv_at hl 1 rfl) ?_
  refine va_get (D := D) (ci := 3) (v := .int (m2 2)) (C := RX3) (T := TX3) (N := 5) hx hb hts iX3 hown hK hP 1 rfl rfl 2 (by decide) (hts (.fieldLink RX3 18 "FilledForOne$Kettle" "age" "I") (by decide +kernel)) (fun _ h9 => h9) rfl dX3_copy_18 ?_
  refine z_put (ci := 3) (v := .int (m2 2)) (ty := .int) (C := RX3) (T := TX3) (N := 5) hx hb hts iX3 tyX3 tyX3_ok nmX3 hown hK hP hD hS 0 rfl rfl 2 (by decide) (hts (.fieldLink RX3 18 "FilledForOne$Kettle" "age" "I") (by decide +kernel)) (fun _ h9 => h9) rfl (by decide +kernel) rfl rfl (Nat.le_of_ble_eq_true rfl) dX3_copy_21 (fun (w9 : Rw) => (WKet a1 w9 ++ (WKet a2 m2))) (upd y2 2 (m2 2)) rfl (fun y3 ey3 H locs hP hD hS => ?_)
  have hf := lt_use ey3 hf
  refine lv_aload_n hx hb dX3_copy_24 rfl (lv_at hl 0 rfl) ?_
  refine lv_aload_n hx hb dX3_copy_25 rfl (lv_at hl 1 rfl) ?_
  refine va_get (D := D) (ci := 3) (v := .int (m2 3)) (C := RX3) (T := TX3) (N := 5) hx hb hts iX3 hown hK hP 1 rfl rfl 3 (by decide) (hts (.fieldLink RX3 21 "FilledForOne$Kettle" "busyTill" "I") (by decide +kernel)) (fun _ h9 => h9) rfl dX3_copy_26 ?_
  refine z_put (ci := 3) (v := .int (m2 3)) (ty := .int) (C := RX3) (T := TX3) (N := 5) hx hb hts iX3 tyX3 tyX3_ok nmX3 hown hK hP hD hS 0 rfl rfl 3 (by decide) (hts (.fieldLink RX3 21 "FilledForOne$Kettle" "busyTill" "I") (by decide +kernel)) (fun _ h9 => h9) rfl (by decide +kernel) rfl rfl (Nat.le_of_ble_eq_true rfl) dX3_copy_29 (fun (w9 : Rw) => (WKet a1 w9 ++ (WKet a2 m2))) (upd y3 3 (m2 3)) rfl (fun y4 ey4 H locs hP hD hS => ?_)
  have hf := lt_use ey4 hf
  refine lv_aload_n hx hb dX3_copy_32 rfl (lv_at hl 0 rfl) ?_
  refine lv_aload_n hx hb dX3_copy_33 rfl (lv_at hl 1 rfl) ?_
  refine va_get (D := D) (ci := 3) (v := .int (m2 4)) (C := RX3) (T := TX3) (N := 5) hx hb hts iX3 hown hK hP 1 rfl rfl 4 (by decide) (hts (.fieldLink RX3 24 "FilledForOne$Kettle" "putOnBy" "I") (by decide +kernel)) (fun _ h9 => h9) rfl dX3_copy_34 ?_
  refine z_put (ci := 3) (v := .int (m2 4)) (ty := .int) (C := RX3) (T := TX3) (N := 5) hx hb hts iX3 tyX3 tyX3_ok nmX3 hown hK hP hD hS 0 rfl rfl 4 (by decide) (hts (.fieldLink RX3 24 "FilledForOne$Kettle" "putOnBy" "I") (by decide +kernel)) (fun _ h9 => h9) rfl (by decide +kernel) rfl rfl (Nat.le_of_ble_eq_true rfl) dX3_copy_37 (fun (w9 : Rw) => (WKet a1 w9 ++ (WKet a2 m2))) (upd y4 4 (m2 4)) rfl (fun y5 ey5 H locs hP hD hS => ?_)
  have hf := lt_use ey5 hf
  cases hf
  exact ret_v hx hb hr hlocks hK hP hD hS dX3_copy_40
def pX3_begin (fu : Nat) (m1 : Rw) : Option Rw :=
  lt' (upd m1 0 0) fun y1 =>
  lt' (upd y1 1 0) fun y2 =>
  lt' (upd y2 2 0) fun y3 =>
  lt' (upd y3 3 0) fun y4 =>
  some y4
set_option maxHeartbeats 4000000 in
set_option maxRecDepth 100000 in
theorem tX3_begin (l : Launch) (D : va_G) (z tt : Nat → Nat) (a1 : Nat) (m1 : Rw)  (fu : Nat) (m1' : Rw) (hf : pX3_begin fu m1 = some m1') : MetV l yX3_begin wsX3_begin ({ frames := 0, cells := 0, slots := 0, locals := 0 } : Room) D z tt ([.ref a1] : List Value) (WKet a1 m1) (WKet a1 m1') := by
  intro sz
  refine Met.ofW (cc := cX3_begin) (maxL := 1) (ret := none) (by decide) rfl ?_
  intro p e s m args below meth c s₁ B hml hv
  obtain ⟨rfl, hsz, hP, hK, hD0, hT, hN⟩ := hv
  have hx := B.exec
  have hb := B.bytes
  have hr := B.returns
  have hts := atoms_spec (ws := wsX3_begin) B.pre
  have hown : s.vm.findClass RX3 = some m.cls := findClass_of_methodNamed B.named
  have hlocks := B.notSynchronized
  subst hsz
  have hD := hD0.self (sz := s.heap.size)
  generalize hAe : va_A (WKet a1 m1) s.heap.size = A at hD hT ⊢
  have hA : ∀ q : Nat, s.heap.size ≤ q → A q := fun q h => by rw [← hAe]; exact Or.inr h
  have hS : va_S A s.heap s.heap [] := va_S.rf
  have hl := lv_entry ([.ref a1] : List Value) (n := 1) (Nat.le_of_ble_eq_true rfl)
  rw [lg_entry_eq]
  generalize (lg_sl ([.ref a1] : List Value) ++ List.replicate (1 - (lg_sl ([.ref a1] : List Value)).length) Slot.unset).toArray = ls at hl ⊢
  have hl : lv_has ls 1 [(0, .ref a1)] := hl
  have iX3 : ∀ w ∈ wsX30, w ∈ wsX3_begin := by decide +kernel
  unfold pX3_begin at hf
  refine lv_aload_n hx hb dX3_begin_0 rfl (lv_at hl 0 rfl) ?_
  refine lv_iconst (v := 0) hx hb dX3_begin_1 (by decide) ?_
  refine z_put (ci := 3) (v := .int 0) (ty := .int) (C := RX3) (T := TX3) (N := 5) hx hb hts iX3 tyX3 tyX3_ok nmX3 hown hK hP hD hS 0 rfl rfl 0 (by decide) (hts (.fieldLink RX3 9 "FilledForOne$Kettle" "level" "I") (by decide +kernel)) (fun _ h9 => h9) rfl (by decide +kernel) rfl rfl (Nat.le_of_ble_eq_true rfl) dX3_begin_2 (fun (w9 : Rw) => (WKet a1 w9)) (upd m1 0 0) rfl (fun y1 ey1 H locs hP hD hS => ?_)
  have hf := lt_use ey1 hf
  refine lv_aload_n hx hb dX3_begin_5 rfl (lv_at hl 0 rfl) ?_
  refine lv_iconst (v := 0) hx hb dX3_begin_6 (by decide) ?_
  refine z_put (ci := 3) (v := .int 0) (ty := .int) (C := RX3) (T := TX3) (N := 5) hx hb hts iX3 tyX3 tyX3_ok nmX3 hown hK hP hD hS 0 rfl rfl 1 (by decide) (hts (.fieldLink RX3 15 "FilledForOne$Kettle" "warmth" "I") (by decide +kernel)) (fun _ h9 => h9) rfl (by decide +kernel) rfl rfl (Nat.le_of_ble_eq_true rfl) dX3_begin_7 (fun (w9 : Rw) => (WKet a1 w9)) (upd y1 1 0) rfl (fun y2 ey2 H locs hP hD hS => ?_)
  have hf := lt_use ey2 hf
  refine lv_aload_n hx hb dX3_begin_10 rfl (lv_at hl 0 rfl) ?_
  refine lv_iconst (v := 0) hx hb dX3_begin_11 (by decide) ?_
  refine z_put (ci := 3) (v := .int 0) (ty := .int) (C := RX3) (T := TX3) (N := 5) hx hb hts iX3 tyX3 tyX3_ok nmX3 hown hK hP hD hS 0 rfl rfl 2 (by decide) (hts (.fieldLink RX3 18 "FilledForOne$Kettle" "age" "I") (by decide +kernel)) (fun _ h9 => h9) rfl (by decide +kernel) rfl rfl (Nat.le_of_ble_eq_true rfl) dX3_begin_12 (fun (w9 : Rw) => (WKet a1 w9)) (upd y2 2 0) rfl (fun y3 ey3 H locs hP hD hS => ?_)
  have hf := lt_use ey3 hf
  refine lv_aload_n hx hb dX3_begin_15 rfl (lv_at hl 0 rfl) ?_
  refine lv_iconst (v := 0) hx hb dX3_begin_16 (by decide) ?_
  refine z_put (ci := 3) (v := .int 0) (ty := .int) (C := RX3) (T := TX3) (N := 5) hx hb hts iX3 tyX3 tyX3_ok nmX3 hown hK hP hD hS 0 rfl rfl 3 (by decide) (hts (.fieldLink RX3 21 "FilledForOne$Kettle" "busyTill" "I") (by decide +kernel)) (fun _ h9 => h9) rfl (by decide +kernel) rfl rfl (Nat.le_of_ble_eq_true rfl) dX3_begin_17 (fun (w9 : Rw) => (WKet a1 w9)) (upd y3 3 0) rfl (fun y4 ey4 H locs hP hD hS => ?_)
  have hf := lt_use ey4 hf
  cases hf
  exact ret_v hx hb hr hlocks hK hP hD hS dX3_begin_20
def pX3_isFree (fu : Nat) (m1 : Rw) (p1 : Int32) : Option Int32 :=
  if p1 < (m1 3) then
    some 0
  else
    some 1
set_option maxHeartbeats 4000000 in
set_option maxRecDepth 100000 in
theorem tX3_isFree (l : Launch) (D : va_G) (z tt : Nat → Nat) (a1 : Nat) (m1 : Rw) (p1 : Int32) (fu : Nat) (rr : Int32) (hf : pX3_isFree fu m1 p1 = some rr) : MetI l yX3_isFree wsX3_isFree ({ frames := 0, cells := 0, slots := 0, locals := 0 } : Room) D z tt ([.ref a1, .int p1] : List Value) (WKet a1 m1) rr (WKet a1 m1) := by
  intro sz
  refine Met.ofW (cc := cX3_isFree) (maxL := 2) (ret := (some .boolean)) (by decide) rfl ?_
  intro p e s m args below meth c s₁ B hml hv
  obtain ⟨rfl, hsz, hP, hK, hD0, hT, hN⟩ := hv
  have hx := B.exec
  have hb := B.bytes
  have hr := B.returns
  have hts := atoms_spec (ws := wsX3_isFree) B.pre
  have hown : s.vm.findClass RX3 = some m.cls := findClass_of_methodNamed B.named
  have hlocks := B.notSynchronized
  subst hsz
  have hD := hD0.self (sz := s.heap.size)
  generalize hAe : va_A (WKet a1 m1) s.heap.size = A at hD hT ⊢
  have hA : ∀ q : Nat, s.heap.size ≤ q → A q := fun q h => by rw [← hAe]; exact Or.inr h
  have hS : va_S A s.heap s.heap [] := va_S.rf
  have hl := lv_entry ([.ref a1, .int p1] : List Value) (n := 2) (Nat.le_of_ble_eq_true rfl)
  rw [lg_entry_eq]
  generalize (lg_sl ([.ref a1, .int p1] : List Value) ++ List.replicate (2 - (lg_sl ([.ref a1, .int p1] : List Value)).length) Slot.unset).toArray = ls at hl ⊢
  have hl : lv_has ls 2 [(0, .ref a1), (1, .int p1)] := hl
  have iX3 : ∀ w ∈ wsX30, w ∈ wsX3_isFree := by decide +kernel
  unfold pX3_isFree at hf
  refine lv_aload_n hx hb dX3_isFree_0 rfl (lv_at hl 0 rfl) ?_
  refine va_get (D := D) (ci := 3) (v := .int (m1 3)) (C := RX3) (T := TX3) (N := 5) hx hb hts iX3 hown hK hP 0 rfl rfl 3 (by decide) (hts (.fieldLink RX3 21 "FilledForOne$Kettle" "busyTill" "I") (by decide +kernel)) (fun _ h9 => h9) rfl dX3_isFree_1 ?_
  refine lv_iload_n hx hb dX3_isFree_4 rfl (lv_at hl 1 rfl) ?_
  refine lv_icmp_gt (tgt := 12) hx hb dX3_isFree_5 (by decide) (fun c1 => ?_) (fun c1 => ?_)
  · have hf := if_t c1 hf
    refine lv_iconst (v := 0) hx hb dX3_isFree_12 (by decide) ?_
    cases hf
    exact ret_z hx hb hr hlocks hK hP hD hS (by decide) dX3_isFree_13
  · have hf := if_f c1 hf
    refine lv_iconst (v := 1) hx hb dX3_isFree_8 (by decide) ?_
    refine lv_goto (tgt := 13) hx hb dX3_isFree_9 (by decide) ?_
    cases hf
    exact ret_z hx hb hr hlocks hK hP hD hS (by decide) dX3_isFree_13
def pX3_isReady (fu : Nat) (m1 : Rw) (p1 : Int32) (p2 : Int32) : Option Int32 :=
  if p1 < (m1 3) then
    some 0
  else
    if (m1 1) < 8 then
      some 0
    else
      if (m1 0) < p2 then
        some 0
      else
        some 1
set_option maxHeartbeats 4000000 in
set_option maxRecDepth 100000 in
theorem tX3_isReady (l : Launch) (D : va_G) (z tt : Nat → Nat) (a1 : Nat) (m1 : Rw) (p1 : Int32) (p2 : Int32) (fu : Nat) (rr : Int32) (hf : pX3_isReady fu m1 p1 p2 = some rr) : MetI l yX3_isReady wsX3_isReady ({ frames := 0, cells := 0, slots := 0, locals := 0 } : Room) D z tt ([.ref a1, .int p1, .int p2] : List Value) (WKet a1 m1) rr (WKet a1 m1) := by
  intro sz
  refine Met.ofW (cc := cX3_isReady) (maxL := 3) (ret := (some .boolean)) (by decide) rfl ?_
  intro p e s m args below meth c s₁ B hml hv
  obtain ⟨rfl, hsz, hP, hK, hD0, hT, hN⟩ := hv
  have hx := B.exec
  have hb := B.bytes
  have hr := B.returns
  have hts := atoms_spec (ws := wsX3_isReady) B.pre
  have hown : s.vm.findClass RX3 = some m.cls := findClass_of_methodNamed B.named
  have hlocks := B.notSynchronized
  subst hsz
  have hD := hD0.self (sz := s.heap.size)
  generalize hAe : va_A (WKet a1 m1) s.heap.size = A at hD hT ⊢
  have hA : ∀ q : Nat, s.heap.size ≤ q → A q := fun q h => by rw [← hAe]; exact Or.inr h
  have hS : va_S A s.heap s.heap [] := va_S.rf
  have hl := lv_entry ([.ref a1, .int p1, .int p2] : List Value) (n := 3) (Nat.le_of_ble_eq_true rfl)
  rw [lg_entry_eq]
  generalize (lg_sl ([.ref a1, .int p1, .int p2] : List Value) ++ List.replicate (3 - (lg_sl ([.ref a1, .int p1, .int p2] : List Value)).length) Slot.unset).toArray = ls at hl ⊢
  have hl : lv_has ls 3 [(0, .ref a1), (1, .int p1), (2, .int p2)] := hl
  have iX3 : ∀ w ∈ wsX30, w ∈ wsX3_isReady := by decide +kernel
  unfold pX3_isReady at hf
  refine lv_aload_n hx hb dX3_isReady_0 rfl (lv_at hl 0 rfl) ?_
  refine va_get (D := D) (ci := 3) (v := .int (m1 3)) (C := RX3) (T := TX3) (N := 5) hx hb hts iX3 hown hK hP 0 rfl rfl 3 (by decide) (hts (.fieldLink RX3 21 "FilledForOne$Kettle" "busyTill" "I") (by decide +kernel)) (fun _ h9 => h9) rfl dX3_isReady_1 ?_
  refine lv_iload_n hx hb dX3_isReady_4 rfl (lv_at hl 1 rfl) ?_
  refine lv_icmp_gt (tgt := 29) hx hb dX3_isReady_5 (by decide) (fun c1 => ?_) (fun c1 => ?_)
  · have hf := if_t c1 hf
    refine lv_iconst (v := 0) hx hb dX3_isReady_29 (by decide) ?_
    cases hf
    exact ret_z hx hb hr hlocks hK hP hD hS (by decide) dX3_isReady_30
  · have hf := if_f c1 hf
    refine lv_aload_n hx hb dX3_isReady_8 rfl (lv_at hl 0 rfl) ?_
    refine va_get (D := D) (ci := 3) (v := .int (m1 1)) (C := RX3) (T := TX3) (N := 5) hx hb hts iX3 hown hK hP 0 rfl rfl 1 (by decide) (hts (.fieldLink RX3 15 "FilledForOne$Kettle" "warmth" "I") (by decide +kernel)) (fun _ h9 => h9) rfl dX3_isReady_9 ?_
    refine lv_bipush (v := 8) hx hb dX3_isReady_12 (by decide) ?_
    refine lv_icmp_lt (tgt := 29) hx hb dX3_isReady_14 (by decide) (fun c2 => ?_) (fun c2 => ?_)
    · have hf := if_t c2 hf
      refine lv_iconst (v := 0) hx hb dX3_isReady_29 (by decide) ?_
      cases hf
      exact ret_z hx hb hr hlocks hK hP hD hS (by decide) dX3_isReady_30
    · have hf := if_f c2 hf
      refine lv_aload_n hx hb dX3_isReady_17 rfl (lv_at hl 0 rfl) ?_
      refine va_get (D := D) (ci := 3) (v := .int (m1 0)) (C := RX3) (T := TX3) (N := 5) hx hb hts iX3 hown hK hP 0 rfl rfl 0 (by decide) (hts (.fieldLink RX3 9 "FilledForOne$Kettle" "level" "I") (by decide +kernel)) (fun _ h9 => h9) rfl dX3_isReady_18 ?_
      refine lv_iload_n hx hb dX3_isReady_21 rfl (lv_at hl 2 rfl) ?_
      refine lv_icmp_lt (tgt := 29) hx hb dX3_isReady_22 (by decide) (fun c3 => ?_) (fun c3 => ?_)
      · have hf := if_t c3 hf
        refine lv_iconst (v := 0) hx hb dX3_isReady_29 (by decide) ?_
        cases hf
        exact ret_z hx hb hr hlocks hK hP hD hS (by decide) dX3_isReady_30
      · have hf := if_f c3 hf
        refine lv_iconst (v := 1) hx hb dX3_isReady_25 (by decide) ?_
        refine lv_goto (tgt := 30) hx hb dX3_isReady_26 (by decide) ?_
        cases hf
        exact ret_z hx hb hr hlocks hK hP hD hS (by decide) dX3_isReady_30
def pX3_fill (fu : Nat) (m1 : Rw) (p1 : Int32) : Option Rw :=
  if p1 ≤ 0 then
    some m1
  else
    ckn p1 <|
    lt' (upd m1 1 (((m1 0) * (m1 1)) / p1)) fun y3 =>
    lt' (upd y3 0 p1) fun y4 =>
    some y4
set_option maxHeartbeats 4000000 in
set_option maxRecDepth 100000 in
theorem tX3_fill (l : Launch) (D : va_G) (z tt : Nat → Nat) (a1 : Nat) (m1 : Rw) (p1 : Int32) (fu : Nat) (m1' : Rw) (hf : pX3_fill fu m1 p1 = some m1') : MetV l yX3_fill wsX3_fill ({ frames := 0, cells := 0, slots := 0, locals := 0 } : Room) D z tt ([.ref a1, .int p1] : List Value) (WKet a1 m1) (WKet a1 m1') := by
  intro sz
  refine Met.ofW (cc := cX3_fill) (maxL := 2) (ret := none) (by decide) rfl ?_
  intro p e s m args below meth c s₁ B hml hv
  obtain ⟨rfl, hsz, hP, hK, hD0, hT, hN⟩ := hv
  have hx := B.exec
  have hb := B.bytes
  have hr := B.returns
  have hts := atoms_spec (ws := wsX3_fill) B.pre
  have hown : s.vm.findClass RX3 = some m.cls := findClass_of_methodNamed B.named
  have hlocks := B.notSynchronized
  subst hsz
  have hD := hD0.self (sz := s.heap.size)
  generalize hAe : va_A (WKet a1 m1) s.heap.size = A at hD hT ⊢
  have hA : ∀ q : Nat, s.heap.size ≤ q → A q := fun q h => by rw [← hAe]; exact Or.inr h
  have hS : va_S A s.heap s.heap [] := va_S.rf
  have hl := lv_entry ([.ref a1, .int p1] : List Value) (n := 2) (Nat.le_of_ble_eq_true rfl)
  rw [lg_entry_eq]
  generalize (lg_sl ([.ref a1, .int p1] : List Value) ++ List.replicate (2 - (lg_sl ([.ref a1, .int p1] : List Value)).length) Slot.unset).toArray = ls at hl ⊢
  have hl : lv_has ls 2 [(0, .ref a1), (1, .int p1)] := hl
  have iX3 : ∀ w ∈ wsX30, w ∈ wsX3_fill := by decide +kernel
  unfold pX3_fill at hf
  refine lv_iload_n hx hb dX3_fill_0 rfl (lv_at hl 1 rfl) ?_
  refine lv_if_le (tgt := 24) hx hb dX3_fill_1 (by decide) (fun c1 => ?_) (fun c1 => ?_)
  · have hf := if_t c1 hf
    cases hf
    exact ret_v hx hb hr hlocks hK hP hD hS dX3_fill_24
  · have hf := if_f c1 hf
    refine lv_aload_n hx hb dX3_fill_4 rfl (lv_at hl 0 rfl) ?_
    refine lv_aload_n hx hb dX3_fill_5 rfl (lv_at hl 0 rfl) ?_
    refine va_get (D := D) (ci := 3) (v := .int (m1 0)) (C := RX3) (T := TX3) (N := 5) hx hb hts iX3 hown hK hP 0 rfl rfl 0 (by decide) (hts (.fieldLink RX3 9 "FilledForOne$Kettle" "level" "I") (by decide +kernel)) (fun _ h9 => h9) rfl dX3_fill_6 ?_
    refine lv_aload_n hx hb dX3_fill_9 rfl (lv_at hl 0 rfl) ?_
    refine va_get (D := D) (ci := 3) (v := .int (m1 1)) (C := RX3) (T := TX3) (N := 5) hx hb hts iX3 hown hK hP 0 rfl rfl 1 (by decide) (hts (.fieldLink RX3 15 "FilledForOne$Kettle" "warmth" "I") (by decide +kernel)) (fun _ h9 => h9) rfl dX3_fill_10 ?_
    refine lv_imul hx hb dX3_fill_13 ?_
    refine lv_iload_n hx hb dX3_fill_14 rfl (lv_at hl 1 rfl) ?_
    obtain ⟨h2, hf⟩ := ckn_use hf
    refine lv_idiv hx hb dX3_fill_15 h2 ?_
    refine z_put (ci := 3) (v := .int (((m1 0) * (m1 1)) / p1)) (ty := .int) (C := RX3) (T := TX3) (N := 5) hx hb hts iX3 tyX3 tyX3_ok nmX3 hown hK hP hD hS 0 rfl rfl 1 (by decide) (hts (.fieldLink RX3 15 "FilledForOne$Kettle" "warmth" "I") (by decide +kernel)) (fun _ h9 => h9) rfl (by decide +kernel) rfl rfl (Nat.le_of_ble_eq_true rfl) dX3_fill_16 (fun (w9 : Rw) => (WKet a1 w9)) (upd m1 1 (((m1 0) * (m1 1)) / p1)) rfl (fun y3 ey3 H locs hP hD hS => ?_)
    have hf := lt_use ey3 hf
    refine lv_aload_n hx hb dX3_fill_19 rfl (lv_at hl 0 rfl) ?_
    refine lv_iload_n hx hb dX3_fill_20 rfl (lv_at hl 1 rfl) ?_
    refine z_put (ci := 3) (v := .int p1) (ty := .int) (C := RX3) (T := TX3) (N := 5) hx hb hts iX3 tyX3 tyX3_ok nmX3 hown hK hP hD hS 0 rfl rfl 0 (by decide) (hts (.fieldLink RX3 9 "FilledForOne$Kettle" "level" "I") (by decide +kernel)) (fun _ h9 => h9) rfl (by decide +kernel) rfl rfl (Nat.le_of_ble_eq_true rfl) dX3_fill_21 (fun (w9 : Rw) => (WKet a1 w9)) (upd y3 0 p1) rfl (fun y4 ey4 H locs hP hD hS => ?_)
    have hf := lt_use ey4 hf
    cases hf
    exact ret_v hx hb hr hlocks hK hP hD hS dX3_fill_24
def pX3_cool (fu : Nat) (m1 : Rw) (p1 : Int32) : Option Rw :=
  lt' (upd m1 2 ((m1 2) + 1)) fun y1 =>
  if (y1 2) < p1 then
    some y1
  else
    lt' (upd y1 1 (imax 0 ((y1 1) - 1))) fun y3 =>
    lt' (upd y3 2 0) fun y4 =>
    some y4
set_option maxHeartbeats 4000000 in
set_option maxRecDepth 100000 in
theorem tX3_cool (l : Launch) (D : va_G) (z tt : Nat → Nat) (a1 : Nat) (m1 : Rw) (p1 : Int32) (fu : Nat) (m1' : Rw) (hf : pX3_cool fu m1 p1 = some m1') : MetV l yX3_cool wsX3_cool ({ frames := 1, cells := 0, slots := 0, locals := 17 } : Room) D z tt ([.ref a1, .int p1] : List Value) (WKet a1 m1) (WKet a1 m1') := by
  intro sz
  refine Met.ofW (cc := cX3_cool) (maxL := 2) (ret := none) (by decide) rfl ?_
  intro p e s m args below meth c s₁ B hml hv
  obtain ⟨rfl, hsz, hP, hK, hD0, hT, hN⟩ := hv
  have hx := B.exec
  have hb := B.bytes
  have hr := B.returns
  have hts := atoms_spec (ws := wsX3_cool) B.pre
  have hown : s.vm.findClass RX3 = some m.cls := findClass_of_methodNamed B.named
  have hlocks := B.notSynchronized
  subst hsz
  have hD := hD0.self (sz := s.heap.size)
  generalize hAe : va_A (WKet a1 m1) s.heap.size = A at hD hT ⊢
  have hA : ∀ q : Nat, s.heap.size ≤ q → A q := fun q h => by rw [← hAe]; exact Or.inr h
  have hS : va_S A s.heap s.heap [] := va_S.rf
  have hl := lv_entry ([.ref a1, .int p1] : List Value) (n := 2) (Nat.le_of_ble_eq_true rfl)
  rw [lg_entry_eq]
  generalize (lg_sl ([.ref a1, .int p1] : List Value) ++ List.replicate (2 - (lg_sl ([.ref a1, .int p1] : List Value)).length) Slot.unset).toArray = ls at hl ⊢
  have hl : lv_has ls 2 [(0, .ref a1), (1, .int p1)] := hl
  have iX3 : ∀ w ∈ wsX30, w ∈ wsX3_cool := by decide +kernel
  unfold pX3_cool at hf
  refine lv_aload_n hx hb dX3_cool_0 rfl (lv_at hl 0 rfl) ?_
  refine lv_dup hx hb dX3_cool_1 rfl ?_
  refine va_get (D := D) (ci := 3) (v := .int (m1 2)) (C := RX3) (T := TX3) (N := 5) hx hb hts iX3 hown hK hP 0 rfl rfl 2 (by decide) (hts (.fieldLink RX3 18 "FilledForOne$Kettle" "age" "I") (by decide +kernel)) (fun _ h9 => h9) rfl dX3_cool_2 ?_
  refine lv_iconst (v := 1) hx hb dX3_cool_5 (by decide) ?_
  refine lv_iadd hx hb dX3_cool_6 ?_
  refine z_put (ci := 3) (v := .int ((m1 2) + 1)) (ty := .int) (C := RX3) (T := TX3) (N := 5) hx hb hts iX3 tyX3 tyX3_ok nmX3 hown hK hP hD hS 0 rfl rfl 2 (by decide) (hts (.fieldLink RX3 18 "FilledForOne$Kettle" "age" "I") (by decide +kernel)) (fun _ h9 => h9) rfl (by decide +kernel) rfl rfl (Nat.le_of_ble_eq_true rfl) dX3_cool_7 (fun (w9 : Rw) => (WKet a1 w9)) (upd m1 2 ((m1 2) + 1)) rfl (fun y1 ey1 H locs hP hD hS => ?_)
  have hf := lt_use ey1 hf
  refine lv_aload_n hx hb dX3_cool_10 rfl (lv_at hl 0 rfl) ?_
  refine va_get (D := D) (ci := 3) (v := .int (y1 2)) (C := RX3) (T := TX3) (N := 5) hx hb hts iX3 hown hK hP 0 rfl rfl 2 (by decide) (hts (.fieldLink RX3 18 "FilledForOne$Kettle" "age" "I") (by decide +kernel)) (fun _ h9 => h9) rfl dX3_cool_11 ?_
  refine lv_iload_n hx hb dX3_cool_14 rfl (lv_at hl 1 rfl) ?_
  refine lv_icmp_lt (tgt := 37) hx hb dX3_cool_15 (by decide) (fun c2 => ?_) (fun c2 => ?_)
  · have hf := if_t c2 hf
    cases hf
    exact ret_v hx hb hr hlocks hK hP hD hS dX3_cool_37
  · have hf := if_f c2 hf
    refine lv_aload_n hx hb dX3_cool_18 rfl (lv_at hl 0 rfl) ?_
    refine lv_iconst (v := 0) hx hb dX3_cool_19 (by decide) ?_
    refine lv_aload_n hx hb dX3_cool_20 rfl (lv_at hl 0 rfl) ?_
    refine va_get (D := D) (ci := 3) (v := .int (y1 1)) (C := RX3) (T := TX3) (N := 5) hx hb hts iX3 hown hK hP 0 rfl rfl 1 (by decide) (hts (.fieldLink RX3 15 "FilledForOne$Kettle" "warmth" "I") (by decide +kernel)) (fun _ h9 => h9) rfl dX3_cool_21 ?_
    refine lv_iconst (v := 1) hx hb dX3_cool_24 (by decide) ?_
    refine lv_isub hx hb dX3_cool_25 ?_
    refine z_max hx hb (by rw [hml]; exact hl.1.symm) hown (hts (.methodLink RX3 31 Lib.Math.max.name) (by decide +kernel)) (hts (.static Lib.Math.max.name) (by decide +kernel)) (hts (.initialized "java/lang/Math") (by decide +kernel)) (hts (.code Lib.Math.max.name Lib.Math.max.code 2 (some .int)) (by decide +kernel)) (Nat.le_of_ble_eq_true rfl) (Nat.le_of_ble_eq_true rfl) dX3_cool_26 (Nat.zero_le _) (Nat.zero_le _) ?_
    refine z_put (ci := 3) (v := .int (imax 0 ((y1 1) - 1))) (ty := .int) (C := RX3) (T := TX3) (N := 5) hx hb hts iX3 tyX3 tyX3_ok nmX3 hown hK hP hD hS 0 rfl rfl 1 (by decide) (hts (.fieldLink RX3 15 "FilledForOne$Kettle" "warmth" "I") (by decide +kernel)) (fun _ h9 => h9) rfl (by decide +kernel) rfl rfl (Nat.le_of_ble_eq_true rfl) dX3_cool_29 (fun (w9 : Rw) => (WKet a1 w9)) (upd y1 1 (imax 0 ((y1 1) - 1))) rfl (fun y3 ey3 H locs hP hD hS => ?_)
    have hf := lt_use ey3 hf
    refine lv_aload_n hx hb dX3_cool_32 rfl (lv_at hl 0 rfl) ?_
    refine lv_iconst (v := 0) hx hb dX3_cool_33 (by decide) ?_
    refine z_put (ci := 3) (v := .int 0) (ty := .int) (C := RX3) (T := TX3) (N := 5) hx hb hts iX3 tyX3 tyX3_ok nmX3 hown hK hP hD hS 0 rfl rfl 2 (by decide) (hts (.fieldLink RX3 18 "FilledForOne$Kettle" "age" "I") (by decide +kernel)) (fun _ h9 => h9) rfl (by decide +kernel) rfl rfl (Nat.le_of_ble_eq_true rfl) dX3_cool_34 (fun (w9 : Rw) => (WKet a1 w9)) (upd y3 2 0) rfl (fun y4 ey4 H locs hP hD hS => ?_)
    have hf := lt_use ey4 hf
    cases hf
    exact ret_v hx hb hr hlocks hK hP hD hS dX3_cool_37
def pX3_tell (fu : Nat) (m1 : Rw) (p1 : Int32) (p2 : Int32) : Option Int32 :=
  if p1 = 0 then
    some (m1 0)
  else
  if p1 = 1 then
    some (m1 1)
  else
  if p1 = 2 then
    some (m1 2)
  else
  some (imax 0 ((m1 3) - p2))
set_option maxHeartbeats 4000000 in
set_option maxRecDepth 100000 in
theorem tX3_tell (l : Launch) (D : va_G) (z tt : Nat → Nat) (a1 : Nat) (m1 : Rw) (p1 : Int32) (p2 : Int32) (fu : Nat) (rr : Int32) (hf : pX3_tell fu m1 p1 p2 = some rr) : MetI l yX3_tell wsX3_tell ({ frames := 1, cells := 0, slots := 0, locals := 17 } : Room) D z tt ([.ref a1, .int p1, .int p2] : List Value) (WKet a1 m1) rr (WKet a1 m1) := by
  intro sz
  refine Met.ofW (cc := cX3_tell) (maxL := 3) (ret := (some .int)) (by decide) rfl ?_
  intro p e s m args below meth c s₁ B hml hv
  obtain ⟨rfl, hsz, hP, hK, hD0, hT, hN⟩ := hv
  have hx := B.exec
  have hb := B.bytes
  have hr := B.returns
  have hts := atoms_spec (ws := wsX3_tell) B.pre
  have hown : s.vm.findClass RX3 = some m.cls := findClass_of_methodNamed B.named
  have hlocks := B.notSynchronized
  subst hsz
  have hD := hD0.self (sz := s.heap.size)
  generalize hAe : va_A (WKet a1 m1) s.heap.size = A at hD hT ⊢
  have hA : ∀ q : Nat, s.heap.size ≤ q → A q := fun q h => by rw [← hAe]; exact Or.inr h
  have hS : va_S A s.heap s.heap [] := va_S.rf
  have hl := lv_entry ([.ref a1, .int p1, .int p2] : List Value) (n := 3) (Nat.le_of_ble_eq_true rfl)
  rw [lg_entry_eq]
  generalize (lg_sl ([.ref a1, .int p1, .int p2] : List Value) ++ List.replicate (3 - (lg_sl ([.ref a1, .int p1, .int p2] : List Value)).length) Slot.unset).toArray = ls at hl ⊢
  have hl : lv_has ls 3 [(0, .ref a1), (1, .int p1), (2, .int p2)] := hl
  have iX3 : ∀ w ∈ wsX30, w ∈ wsX3_tell := by decide +kernel
  unfold pX3_tell at hf
  refine lv_iload_n hx hb dX3_tell_0 rfl (lv_at hl 1 rfl) ?_
  by_cases c1 : p1 = 0
  · have hf := if_t c1 hf
    refine z_tin (K := 0) hx hb c1 dX3_tell_1 ⟨rfl, by decide, by decide⟩ (tgt := 28) (by decide) ?_
    refine lv_aload_n hx hb dX3_tell_28 rfl (lv_at hl 0 rfl) ?_
    refine va_get (D := D) (ci := 3) (v := .int (m1 0)) (C := RX3) (T := TX3) (N := 5) hx hb hts iX3 hown hK hP 0 rfl rfl 0 (by decide) (hts (.fieldLink RX3 9 "FilledForOne$Kettle" "level" "I") (by decide +kernel)) (fun _ h9 => h9) rfl dX3_tell_29 ?_
    cases hf
    exact ret_i hx hb hr hlocks hK hP hD hS dX3_tell_32
  have hf := if_f c1 hf
  by_cases c2 : p1 = 1
  · have hf := if_t c2 hf
    refine z_tin (K := 1) hx hb c2 dX3_tell_1 ⟨rfl, by decide, by decide⟩ (tgt := 33) (by decide) ?_
    refine lv_aload_n hx hb dX3_tell_33 rfl (lv_at hl 0 rfl) ?_
    refine va_get (D := D) (ci := 3) (v := .int (m1 1)) (C := RX3) (T := TX3) (N := 5) hx hb hts iX3 hown hK hP 0 rfl rfl 1 (by decide) (hts (.fieldLink RX3 15 "FilledForOne$Kettle" "warmth" "I") (by decide +kernel)) (fun _ h9 => h9) rfl dX3_tell_34 ?_
    cases hf
    exact ret_i hx hb hr hlocks hK hP hD hS dX3_tell_37
  have hf := if_f c2 hf
  by_cases c3 : p1 = 2
  · have hf := if_t c3 hf
    refine z_tin (K := 2) hx hb c3 dX3_tell_1 ⟨rfl, by decide, by decide⟩ (tgt := 38) (by decide) ?_
    refine lv_aload_n hx hb dX3_tell_38 rfl (lv_at hl 0 rfl) ?_
    refine va_get (D := D) (ci := 3) (v := .int (m1 2)) (C := RX3) (T := TX3) (N := 5) hx hb hts iX3 hown hK hP 0 rfl rfl 2 (by decide) (hts (.fieldLink RX3 18 "FilledForOne$Kettle" "age" "I") (by decide +kernel)) (fun _ h9 => h9) rfl dX3_tell_39 ?_
    cases hf
    exact ret_i hx hb hr hlocks hK hP hD hS dX3_tell_42
  have hf := if_f c3 hf
  refine lv_tableOut (tgt := 43) hx hb dX3_tell_1 (by have qc1 := lv_neT c1 (show (0 : Int32).toInt = 0 from by decide); have qc2 := lv_neT c2 (show (1 : Int32).toInt = 1 from by decide); have qc3 := lv_neT c3 (show (2 : Int32).toInt = 2 from by decide); omega) (by decide) ?_
  refine lv_iconst (v := 0) hx hb dX3_tell_43 (by decide) ?_
  refine lv_aload_n hx hb dX3_tell_44 rfl (lv_at hl 0 rfl) ?_
  refine va_get (D := D) (ci := 3) (v := .int (m1 3)) (C := RX3) (T := TX3) (N := 5) hx hb hts iX3 hown hK hP 0 rfl rfl 3 (by decide) (hts (.fieldLink RX3 21 "FilledForOne$Kettle" "busyTill" "I") (by decide +kernel)) (fun _ h9 => h9) rfl dX3_tell_45 ?_
  refine lv_iload_n hx hb dX3_tell_48 rfl (lv_at hl 2 rfl) ?_
  refine lv_isub hx hb dX3_tell_49 ?_
  refine z_max hx hb (by rw [hml]; exact hl.1.symm) hown (hts (.methodLink RX3 31 Lib.Math.max.name) (by decide +kernel)) (hts (.static Lib.Math.max.name) (by decide +kernel)) (hts (.initialized "java/lang/Math") (by decide +kernel)) (hts (.code Lib.Math.max.name Lib.Math.max.code 2 (some .int)) (by decide +kernel)) (Nat.le_of_ble_eq_true rfl) (Nat.le_of_ble_eq_true rfl) dX3_tell_50 (Nat.zero_le _) (Nat.zero_le _) ?_
  cases hf
  exact ret_i hx hb hr hlocks hK hP hD hS dX3_tell_53
def pX2_copy (fu : Nat) (m1 : Mem) (m2 : Mem) : Option Mem :=
  lt' (va_up m1 1 (va_cpy (m2 1) (m1 1) 0 0 8)) fun y1 =>
  lt' (va_up y1 2 (va_cpy (m2 2) (y1 2) 0 0 8)) fun y2 =>
  lt' (up2 y2 0 4 (m2 0 4)) fun y3 =>
  lt' (up2 y3 0 5 (m2 0 5)) fun y4 =>
  lt' (up2 y4 0 6 (m2 0 6)) fun y5 =>
  zl2 (fun g9 (x6 : Int32) (y7 : Mem) =>
    if (y7 0 4) ≤ x6 then
      zl2 (fun g15 (x12 : Int32) (y13 : Mem) =>
        if 2 ≤ x12 then
          some y13
        else
          ck x12 2 <|
          ck x12 2 <|
          bd (pX3_copy fu (y13 (3 + x12.toNatClampNeg)) (m2 (3 + x12.toNatClampNeg))) fun y20 =>
          lt' (va_up y13 (3 + x12.toNatClampNeg) y20) fun y22 =>
          lt' (x12 + 1) fun x23 =>
          g15 x23 y22) fu 0 y7
    else
      ck x6 8 <|
      ck x6 8 <|
      bd (pX1_copy fu (y7 (5 + x6.toNatClampNeg)) (m2 (5 + x6.toNatClampNeg))) fun y26 =>
      lt' (va_up y7 (5 + x6.toNatClampNeg) y26) fun y28 =>
      lt' (x6 + 1) fun x29 =>
      g9 x29 y28) fu 0 y5
set_option maxHeartbeats 4000000 in
set_option maxRecDepth 100000 in
theorem tX2_copy (l : Launch) (D : va_G) (z tt : Nat → Nat) (a1 : Nat → Nat) (a2 : Nat → Nat) (m1 : Mem) (m2 : Mem)  (fu : Nat) (m1' : Mem) (hf : pX2_copy fu m1 m2 = some m1') : MetV l yX2_copy wsX2_copy ({ frames := 2, cells := 0, slots := 0, locals := 43 } : Room) D z tt ([.ref (a1 0), .ref (a2 0)] : List Value) (WDay z a1 m1 ++ (WDay z a2 m2)) (WDay z a1 m1' ++ (WDay z a2 m2)) := by
  intro sz
  refine Met.ofW (cc := cX2_copy) (maxL := 3) (ret := none) (by decide) rfl ?_
  intro p e s m args below meth c s₁ B hml hv
  obtain ⟨rfl, hsz, hP, hK, hD0, hT, hN⟩ := hv
  have hx := B.exec
  have hb := B.bytes
  have hr := B.returns
  have hts := atoms_spec (ws := wsX2_copy) B.pre
  have hown : s.vm.findClass RX2 = some m.cls := findClass_of_methodNamed B.named
  have hlocks := B.notSynchronized
  subst hsz
  have hD := hD0.self (sz := s.heap.size)
  generalize hAe : va_A (WDay z a1 m1 ++ (WDay z a2 m2)) s.heap.size = A at hD hT ⊢
  have hA : ∀ q : Nat, s.heap.size ≤ q → A q := fun q h => by rw [← hAe]; exact Or.inr h
  have hS : va_S A s.heap s.heap [] := va_S.rf
  have hl := lv_entry ([.ref (a1 0), .ref (a2 0)] : List Value) (n := 3) (Nat.le_of_ble_eq_true rfl)
  rw [lg_entry_eq]
  generalize (lg_sl ([.ref (a1 0), .ref (a2 0)] : List Value) ++ List.replicate (3 - (lg_sl ([.ref (a1 0), .ref (a2 0)] : List Value)).length) Slot.unset).toArray = ls at hl ⊢
  have hl : lv_has ls 3 [(0, .ref (a1 0)), (1, .ref (a2 0))] := hl
  have iX2 : ∀ w ∈ wsX20, w ∈ wsX2_copy := by decide +kernel
  unfold pX2_copy at hf
  refine lv_aload_n hx hb dX2_copy_0 rfl (lv_at hl 1 rfl) ?_
  refine va_get (D := D) (ci := 2) (v := .ref (a2 1)) (C := RX2) (T := TX2) (N := 8) hx hb hts iX2 hown hK hP 15 rfl rfl 0 (by decide) (hts (.fieldLink RX2 18 "FilledForOne$Day" "settings" "[I") (by decide +kernel)) (fun _ h9 => h9) rfl dX2_copy_1 ?_
  refine lv_iconst (v := 0) hx hb dX2_copy_4 (by decide) ?_
  refine lv_aload_n hx hb dX2_copy_5 rfl (lv_at hl 0 rfl) ?_
  refine va_get (D := D) (ci := 2) (v := .ref (a1 1)) (C := RX2) (T := TX2) (N := 8) hx hb hts iX2 hown hK hP 0 rfl rfl 0 (by decide) (hts (.fieldLink RX2 18 "FilledForOne$Day" "settings" "[I") (by decide +kernel)) (fun _ h9 => h9) rfl dX2_copy_6 ?_
  refine lv_iconst (v := 0) hx hb dX2_copy_9 (by decide) ?_
  refine lv_aload_n hx hb dX2_copy_10 rfl (lv_at hl 0 rfl) ?_
  refine va_get (D := D) (ci := 2) (v := .ref (a1 1)) (C := RX2) (T := TX2) (N := 8) hx hb hts iX2 hown hK hP 0 rfl rfl 0 (by decide) (hts (.fieldLink RX2 18 "FilledForOne$Day" "settings" "[I") (by decide +kernel)) (fun _ h9 => h9) rfl dX2_copy_11 ?_
  refine z_alen hx hb hK hP 1 0 rfl rfl (v := 8) rfl dX2_copy_14 ?_
  refine z_copy hx hb (by rw [hml]; exact hl.1.symm) hown (hts (.methodLink RX2 40 arraycopyName) (by decide +kernel)) (hts (.native arraycopyName) (by decide +kernel)) (hts (.static arraycopyName) (by decide +kernel)) (hts (.initialized "java/lang/System") (by decide +kernel)) hK hP hD hS 16 1 rfl rfl (n := 8) (nn := 8) (by decide) (by decide) (Nat.le_of_ble_eq_true rfl) (Nat.le_of_ble_eq_true rfl) (Nat.le_of_ble_eq_true rfl) (by decide +kernel) dX2_copy_15 (fun (w9 : Mem) => (WDay z a1 w9 ++ (WDay z a2 m2))) (va_up m1 1 (va_cpy (m2 1) (m1 1) 0 0 8)) rfl (fun y1 ey1 H locs hP hD hS => ?_)
  have hf := lt_use ey1 hf
  refine lv_aload_n hx hb dX2_copy_18 rfl (lv_at hl 1 rfl) ?_
  refine va_get (D := D) (ci := 2) (v := .ref (a2 2)) (C := RX2) (T := TX2) (N := 8) hx hb hts iX2 hown hK hP 15 rfl rfl 3 (by decide) (hts (.fieldLink RX2 37 "FilledForOne$Day" "line" "[I") (by decide +kernel)) (fun _ h9 => h9) rfl dX2_copy_19 ?_
  refine lv_iconst (v := 0) hx hb dX2_copy_22 (by decide) ?_
  refine lv_aload_n hx hb dX2_copy_23 rfl (lv_at hl 0 rfl) ?_
  refine va_get (D := D) (ci := 2) (v := .ref (a1 2)) (C := RX2) (T := TX2) (N := 8) hx hb hts iX2 hown hK hP 0 rfl rfl 3 (by decide) (hts (.fieldLink RX2 37 "FilledForOne$Day" "line" "[I") (by decide +kernel)) (fun _ h9 => h9) rfl dX2_copy_24 ?_
  refine lv_iconst (v := 0) hx hb dX2_copy_27 (by decide) ?_
  refine lv_aload_n hx hb dX2_copy_28 rfl (lv_at hl 0 rfl) ?_
  refine va_get (D := D) (ci := 2) (v := .ref (a1 2)) (C := RX2) (T := TX2) (N := 8) hx hb hts iX2 hown hK hP 0 rfl rfl 3 (by decide) (hts (.fieldLink RX2 37 "FilledForOne$Day" "line" "[I") (by decide +kernel)) (fun _ h9 => h9) rfl dX2_copy_29 ?_
  refine z_alen hx hb hK hP 2 0 rfl rfl (v := 8) rfl dX2_copy_32 ?_
  refine z_copy hx hb (by rw [hml]; exact hl.1.symm) hown (hts (.methodLink RX2 40 arraycopyName) (by decide +kernel)) (hts (.native arraycopyName) (by decide +kernel)) (hts (.static arraycopyName) (by decide +kernel)) (hts (.initialized "java/lang/System") (by decide +kernel)) hK hP hD hS 17 2 rfl rfl (n := 8) (nn := 8) (by decide) (by decide) (Nat.le_of_ble_eq_true rfl) (Nat.le_of_ble_eq_true rfl) (Nat.le_of_ble_eq_true rfl) (by decide +kernel) dX2_copy_33 (fun (w9 : Mem) => (WDay z a1 w9 ++ (WDay z a2 m2))) (va_up y1 2 (va_cpy (m2 2) (y1 2) 0 0 8)) rfl (fun y2 ey2 H locs hP hD hS => ?_)
  have hf := lt_use ey2 hf
  refine lv_aload_n hx hb dX2_copy_36 rfl (lv_at hl 0 rfl) ?_
  refine lv_aload_n hx hb dX2_copy_37 rfl (lv_at hl 1 rfl) ?_
  refine va_get (D := D) (ci := 2) (v := .int (m2 0 4)) (C := RX2) (T := TX2) (N := 8) hx hb hts iX2 hown hK hP 15 rfl rfl 4 (by decide) (hts (.fieldLink RX2 46 "FilledForOne$Day" "known" "I") (by decide +kernel)) (fun _ h9 => h9) rfl dX2_copy_38 ?_
  refine z_put (ci := 2) (v := .int (m2 0 4)) (ty := .int) (C := RX2) (T := TX2) (N := 8) hx hb hts iX2 tyX2 tyX2_ok nmX2 hown hK hP hD hS 0 rfl rfl 4 (by decide) (hts (.fieldLink RX2 46 "FilledForOne$Day" "known" "I") (by decide +kernel)) (fun _ h9 => h9) rfl (by decide +kernel) rfl rfl (Nat.le_of_ble_eq_true rfl) dX2_copy_41 (fun (w9 : Mem) => (WDay z a1 w9 ++ (WDay z a2 m2))) (up2 y2 0 4 (m2 0 4)) rfl (fun y3 ey3 H locs hP hD hS => ?_)
  have hf := lt_use ey3 hf
  refine lv_aload_n hx hb dX2_copy_44 rfl (lv_at hl 0 rfl) ?_
  refine lv_aload_n hx hb dX2_copy_45 rfl (lv_at hl 1 rfl) ?_
  refine va_get (D := D) (ci := 2) (v := .int (m2 0 5)) (C := RX2) (T := TX2) (N := 8) hx hb hts iX2 hown hK hP 15 rfl rfl 5 (by decide) (hts (.fieldLink RX2 50 "FilledForOne$Day" "lined" "I") (by decide +kernel)) (fun _ h9 => h9) rfl dX2_copy_46 ?_
  refine z_put (ci := 2) (v := .int (m2 0 5)) (ty := .int) (C := RX2) (T := TX2) (N := 8) hx hb hts iX2 tyX2 tyX2_ok nmX2 hown hK hP hD hS 0 rfl rfl 5 (by decide) (hts (.fieldLink RX2 50 "FilledForOne$Day" "lined" "I") (by decide +kernel)) (fun _ h9 => h9) rfl (by decide +kernel) rfl rfl (Nat.le_of_ble_eq_true rfl) dX2_copy_49 (fun (w9 : Mem) => (WDay z a1 w9 ++ (WDay z a2 m2))) (up2 y3 0 5 (m2 0 5)) rfl (fun y4 ey4 H locs hP hD hS => ?_)
  have hf := lt_use ey4 hf
  refine lv_aload_n hx hb dX2_copy_52 rfl (lv_at hl 0 rfl) ?_
  refine lv_aload_n hx hb dX2_copy_53 rfl (lv_at hl 1 rfl) ?_
  refine va_get (D := D) (ci := 2) (v := .int (m2 0 6)) (C := RX2) (T := TX2) (N := 8) hx hb hts iX2 hown hK hP 15 rfl rfl 6 (by decide) (hts (.fieldLink RX2 53 "FilledForOne$Day" "minute" "I") (by decide +kernel)) (fun _ h9 => h9) rfl dX2_copy_54 ?_
  refine z_put (ci := 2) (v := .int (m2 0 6)) (ty := .int) (C := RX2) (T := TX2) (N := 8) hx hb hts iX2 tyX2 tyX2_ok nmX2 hown hK hP hD hS 0 rfl rfl 6 (by decide) (hts (.fieldLink RX2 53 "FilledForOne$Day" "minute" "I") (by decide +kernel)) (fun _ h9 => h9) rfl (by decide +kernel) rfl rfl (Nat.le_of_ble_eq_true rfl) dX2_copy_57 (fun (w9 : Mem) => (WDay z a1 w9 ++ (WDay z a2 m2))) (up2 y4 0 6 (m2 0 6)) rfl (fun y5 ey5 H locs hP hD hS => ?_)
  have hf := lt_use ey5 hf
  refine lv_iconst (v := 0) hx hb dX2_copy_60 (by decide) ?_
  refine lv_istore_n (lv' := [(2, .int 0), (0, .ref (a1 0)), (1, .ref (a2 0))]) hx hb dX2_copy_61 rfl hl (by decide) rfl (fun ls hl => ?_)
  obtain ⟨F8, eF8, hf⟩ := zl2_use hf
  have L62_F8 : ∀ (n : Nat) (x6 : Int32) (y7 : Mem) (H : Heap) (locs : List Loc), va_P D vwCl (WDay z a1 y7 ++ (WDay z a2 m2)) H → va_D A (WDay z a1 y7 ++ (WDay z a2 m2)) → va_S A s.heap H locs → ∀ (ls : Array Slot), lv_has ls 3 [(0, .ref (a1 0)), (1, .ref (a2 0)), (2, .int x6)] → zl2 F8 n x6 y7 = some m1' → GV p l e (headSpec wsX2_copy ({ frames := 2, cells := 0, slots := 0, locals := 43 } : Room)).room s m ([.ref (a1 0), .ref (a2 0)] : List Value).toArray below meth c A D z (WDay z a1 m1' ++ (WDay z a2 m2)) H locs (F0 m 62 ls []) := by
    intro n
    induction n with
    | zero =>
      intro x6 y7 H locs hP hD hS ls hl hf
      exact no_none hf
    | succ n ih10 =>
      intro x6 y7 H locs hP hD hS ls hl hf
      have hf := zl2_s eF8 hf
      refine lv_iload_n hx hb dX2_copy_62 rfl (lv_at hl 2 rfl) ?_
      refine lv_aload_n hx hb dX2_copy_63 rfl (lv_at hl 0 rfl) ?_
      refine va_get (D := D) (ci := 2) (v := .int (y7 0 4)) (C := RX2) (T := TX2) (N := 8) hx hb hts iX2 hown hK hP 0 rfl rfl 4 (by decide) (hts (.fieldLink RX2 46 "FilledForOne$Day" "known" "I") (by decide +kernel)) (fun _ h9 => h9) rfl dX2_copy_64 ?_
      refine lv_icmp_ge (tgt := 91) hx hb dX2_copy_67 (by decide) (fun c11 => ?_) (fun c11 => ?_)
      · have hf := if_t c11 hf
        refine lv_iconst (v := 0) hx hb dX2_copy_91 (by decide) ?_
        refine lv_istore_n (lv' := [(2, .int 0), (0, .ref (a1 0)), (1, .ref (a2 0))]) hx hb dX2_copy_92 rfl hl (by decide) rfl (fun ls hl => ?_)
        obtain ⟨F14, eF14, hf⟩ := zl2_use hf
        have L93_F14 : ∀ (n : Nat) (x12 : Int32) (y13 : Mem) (H : Heap) (locs : List Loc), va_P D vwCl (WDay z a1 y13 ++ (WDay z a2 m2)) H → va_D A (WDay z a1 y13 ++ (WDay z a2 m2)) → va_S A s.heap H locs → ∀ (ls : Array Slot), lv_has ls 3 [(0, .ref (a1 0)), (1, .ref (a2 0)), (2, .int x12)] → zl2 F14 n x12 y13 = some m1' → GV p l e (headSpec wsX2_copy ({ frames := 2, cells := 0, slots := 0, locals := 43 } : Room)).room s m ([.ref (a1 0), .ref (a2 0)] : List Value).toArray below meth c A D z (WDay z a1 m1' ++ (WDay z a2 m2)) H locs (F0 m 93 ls []) := by
          intro n
          induction n with
          | zero =>
            intro x12 y13 H locs hP hD hS ls hl hf
            exact no_none hf
          | succ n ih16 =>
            intro x12 y13 H locs hP hD hS ls hl hf
            have hf := zl2_s eF14 hf
            refine lv_iload_n hx hb dX2_copy_93 rfl (lv_at hl 2 rfl) ?_
            refine lv_aload_n hx hb dX2_copy_94 rfl (lv_at hl 0 rfl) ?_
            refine va_get (D := D) (ci := 2) (v := .ref (a1 14)) (C := RX2) (T := TX2) (N := 8) hx hb hts iX2 hown hK hP 0 rfl rfl 2 (by decide) (hts (.fieldLink RX2 32 "FilledForOne$Day" "kettles" "[LFilledForOne$Kettle;") (by decide +kernel)) (fun _ h9 => h9) rfl dX2_copy_95 ?_
            refine z_alen hx hb hK hP 14 2 rfl rfl (v := 2) rfl dX2_copy_98 ?_
            refine lv_icmp_ge (tgt := 123) hx hb dX2_copy_99 (by decide) (fun c17 => ?_) (fun c17 => ?_)
            · have hf := if_t c17 hf
              cases hf
              exact ret_v hx hb hr hlocks hK hP hD hS dX2_copy_123
            · have hf := if_f c17 hf
              refine lv_aload_n hx hb dX2_copy_102 rfl (lv_at hl 0 rfl) ?_
              refine va_get (D := D) (ci := 2) (v := .ref (a1 14)) (C := RX2) (T := TX2) (N := 8) hx hb hts iX2 hown hK hP 0 rfl rfl 2 (by decide) (hts (.fieldLink RX2 32 "FilledForOne$Day" "kettles" "[LFilledForOne$Kettle;") (by decide +kernel)) (fun _ h9 => h9) rfl dX2_copy_103 ?_
              refine lv_iload_n hx hb dX2_copy_106 rfl (lv_at hl 2 rfl) ?_
              obtain ⟨h18, hf⟩ := ck_use hf
              refine z_ald hx hb hK hP 14 2 (C := "FilledForOne$Kettle") (g := (fun j => a1 (3 + j))) rfl rfl h18 dX2_copy_107 ?_
              refine lv_aload_n hx hb dX2_copy_108 rfl (lv_at hl 1 rfl) ?_
              refine va_get (D := D) (ci := 2) (v := .ref (a2 14)) (C := RX2) (T := TX2) (N := 8) hx hb hts iX2 hown hK hP 15 rfl rfl 2 (by decide) (hts (.fieldLink RX2 32 "FilledForOne$Day" "kettles" "[LFilledForOne$Kettle;") (by decide +kernel)) (fun _ h9 => h9) rfl dX2_copy_109 ?_
              refine lv_iload_n hx hb dX2_copy_112 rfl (lv_at hl 2 rfl) ?_
              obtain ⟨h19, hf⟩ := ck_use hf
              refine z_ald hx hb hK hP 29 2 (C := "FilledForOne$Kettle") (g := (fun j => a2 (3 + j))) rfl rfl h19 dX2_copy_113 ?_
              obtain ⟨y20, q21, hf⟩ := bd_use hf
              obtain ⟨y22, ey22⟩ : ∃ w : Mem, w = va_up y13 (3 + x12.toNatClampNeg) y20 := ⟨_, rfl⟩
              have hf := lt_use ey22 hf
              refine z_goV (va_runV (As := [.ref (a2 (3 + x12.toNatClampNeg))]) (rest := []) ⟨hx, hb, hml, hown, hts⟩ (tX3_copy l D z tt (a1 (3 + x12.toNatClampNeg)) (a2 (3 + x12.toNatClampNeg)) (y13 (3 + x12.toNatClampNeg)) (m2 (3 + x12.toNatClampNeg))  fu y20 q21 _) (cwV 1 hts gX2_copy_X3_copy rfl rfl rfl (by decide +kernel) ⟨Nat.le_of_ble_eq_true rfl, Nat.le_of_ble_eq_true rfl⟩) (z_preV hK hP hD hS hA hT hN [(3 + x12.toNatClampNeg), (15 + (3 + x12.toNatClampNeg))] (js2 (w_beg (WDay_k z a1 y13 (vp_lt h18))) (w_skip (n := 15) rfl (WDay_k z a2 m2 (vp_lt h19)))) (nd2 (by have := (vp_lt h18); have := (vp_lt h19); omega)) (va_recv hK hP (ci := 3) (q0 := (3 + x12.toNatClampNeg)) rfl (w_beg (WDay_k z a1 y13 (vp_lt h18))))) rfl rfl hl.1 rfl (lv_room (Nat.le_of_ble_eq_true rfl)) dX2_copy_114 ⟨Nat.zero_le _, Nat.zero_le _⟩) hP hD hS hA [(3 + x12.toNatClampNeg), (15 + (3 + x12.toNatClampNeg))] (js2 (w_beg (WDay_k z a1 y13 (vp_lt h18))) (w_skip (n := 15) rfl (WDay_k z a2 m2 (vp_lt h19)))) (nd2 (by have := (vp_lt h18); have := (vp_lt h19); omega)) rfl (ws1 := (WDay z a1 y22 ++ (WDay z a2 m2))) (by rw [ey22]; exact (set2_same (s_beg (WDay_k z a1 y13 (vp_lt h18)) (WDay_sk z a1 y13 y20 (vp_lt h18))) (w_skip (n := 15) rfl (WDay_k z a2 m2 (vp_lt h19))) (by have := (vp_lt h18); have := (vp_lt h19); omega))) (fun H locs hP hD hS => ?_)
              obtain ⟨x23, ex23⟩ : ∃ y : Int32, y = x12 + 1 := ⟨_, rfl⟩
              have hf := lt_use ex23 hf
              refine lv_iinc (v := x23) (lv' := [(2, .int x23), (0, .ref (a1 0)), (1, .ref (a2 0))]) hx hb dX2_copy_117 hl (k := 2) rfl (by rw [ex23]; rfl) (by decide) rfl (fun ls hl => ?_)
              refine lv_goto (tgt := 93) hx hb dX2_copy_120 (by decide) ?_
              exact ih16 _ _ _ _ hP hD hS _ (lv_sub hl [1, 2, 0] rfl) hf
        exact L93_F14 fu _ _ _ _ hP hD hS _ (lv_sub hl [1, 2, 0] rfl) hf
      · have hf := if_f c11 hf
        refine lv_aload_n hx hb dX2_copy_70 rfl (lv_at hl 0 rfl) ?_
        refine va_get (D := D) (ci := 2) (v := .ref (a1 13)) (C := RX2) (T := TX2) (N := 8) hx hb hts iX2 hown hK hP 0 rfl rfl 1 (by decide) (hts (.fieldLink RX2 25 "FilledForOne$Day" "comers" "[LFilledForOne$Comer;") (by decide +kernel)) (fun _ h9 => h9) rfl dX2_copy_71 ?_
        refine lv_iload_n hx hb dX2_copy_74 rfl (lv_at hl 2 rfl) ?_
        obtain ⟨h24, hf⟩ := ck_use hf
        refine z_ald hx hb hK hP 13 1 (C := "FilledForOne$Comer") (g := (fun j => a1 (5 + j))) rfl rfl h24 dX2_copy_75 ?_
        refine lv_aload_n hx hb dX2_copy_76 rfl (lv_at hl 1 rfl) ?_
        refine va_get (D := D) (ci := 2) (v := .ref (a2 13)) (C := RX2) (T := TX2) (N := 8) hx hb hts iX2 hown hK hP 15 rfl rfl 1 (by decide) (hts (.fieldLink RX2 25 "FilledForOne$Day" "comers" "[LFilledForOne$Comer;") (by decide +kernel)) (fun _ h9 => h9) rfl dX2_copy_77 ?_
        refine lv_iload_n hx hb dX2_copy_80 rfl (lv_at hl 2 rfl) ?_
        obtain ⟨h25, hf⟩ := ck_use hf
        refine z_ald hx hb hK hP 28 1 (C := "FilledForOne$Comer") (g := (fun j => a2 (5 + j))) rfl rfl h25 dX2_copy_81 ?_
        obtain ⟨y26, q27, hf⟩ := bd_use hf
        obtain ⟨y28, ey28⟩ : ∃ w : Mem, w = va_up y7 (5 + x6.toNatClampNeg) y26 := ⟨_, rfl⟩
        have hf := lt_use ey28 hf
        refine z_goV (va_runV (As := [.ref (a2 (5 + x6.toNatClampNeg))]) (rest := []) ⟨hx, hb, hml, hown, hts⟩ (tX1_copy l D z tt (a1 (5 + x6.toNatClampNeg)) (a2 (5 + x6.toNatClampNeg)) (y7 (5 + x6.toNatClampNeg)) (m2 (5 + x6.toNatClampNeg))  fu y26 q27 _) (cwV 1 hts gX2_copy_X1_copy rfl rfl rfl (by decide +kernel) ⟨Nat.le_of_ble_eq_true rfl, Nat.le_of_ble_eq_true rfl⟩) (z_preV hK hP hD hS hA hT hN [(5 + x6.toNatClampNeg), (15 + (5 + x6.toNatClampNeg))] (js2 (w_beg (WDay_c z a1 y7 (vp_lt h24))) (w_skip (n := 15) rfl (WDay_c z a2 m2 (vp_lt h25)))) (nd2 (by have := (vp_lt h24); have := (vp_lt h25); omega)) (va_recv hK hP (ci := 1) (q0 := (5 + x6.toNatClampNeg)) rfl (w_beg (WDay_c z a1 y7 (vp_lt h24))))) rfl rfl hl.1 rfl (lv_room (Nat.le_of_ble_eq_true rfl)) dX2_copy_82 ⟨Nat.zero_le _, Nat.zero_le _⟩) hP hD hS hA [(5 + x6.toNatClampNeg), (15 + (5 + x6.toNatClampNeg))] (js2 (w_beg (WDay_c z a1 y7 (vp_lt h24))) (w_skip (n := 15) rfl (WDay_c z a2 m2 (vp_lt h25)))) (nd2 (by have := (vp_lt h24); have := (vp_lt h25); omega)) rfl (ws1 := (WDay z a1 y28 ++ (WDay z a2 m2))) (by rw [ey28]; exact (set2_same (s_beg (WDay_c z a1 y7 (vp_lt h24)) (WDay_sc z a1 y7 y26 (vp_lt h24))) (w_skip (n := 15) rfl (WDay_c z a2 m2 (vp_lt h25))) (by have := (vp_lt h24); have := (vp_lt h25); omega))) (fun H locs hP hD hS => ?_)
        obtain ⟨x29, ex29⟩ : ∃ y : Int32, y = x6 + 1 := ⟨_, rfl⟩
        have hf := lt_use ex29 hf
        refine lv_iinc (v := x29) (lv' := [(2, .int x29), (0, .ref (a1 0)), (1, .ref (a2 0))]) hx hb dX2_copy_85 hl (k := 2) rfl (by rw [ex29]; rfl) (by decide) rfl (fun ls hl => ?_)
        refine lv_goto (tgt := 62) hx hb dX2_copy_88 (by decide) ?_
        exact ih10 _ _ _ _ hP hD hS _ (lv_sub hl [1, 2, 0] rfl) hf
  exact L62_F8 fu _ _ _ _ hP hD hS _ (lv_sub hl [1, 2, 0] rfl) hf
def pX2_begin (fu : Nat) (m1 : Mem) : Option Mem :=
  lt' (up2 m1 0 6 0) fun y1 =>
  lt' (up2 y1 0 5 0) fun y2 =>
  zl2 (fun g6 (x3 : Int32) (y4 : Mem) =>
    if (y4 0 4) ≤ x3 then
      zl2 (fun g12 (x9 : Int32) (y10 : Mem) =>
        if 2 ≤ x9 then
          some y10
        else
          ck x9 2 <|
          bd (pX3_begin fu (y10 (3 + x9.toNatClampNeg))) fun y16 =>
          lt' (va_up y10 (3 + x9.toNatClampNeg) y16) fun y18 =>
          lt' (x9 + 1) fun x19 =>
          g12 x19 y18) fu 0 y4
    else
      ck x3 8 <|
      lt' (up2 y4 (5 + x3.toNatClampNeg) 5 0) fun y21 =>
      lt' (x3 + 1) fun x22 =>
      g6 x22 y21) fu 0 y2
set_option maxHeartbeats 4000000 in
set_option maxRecDepth 100000 in
theorem tX2_begin (l : Launch) (D : va_G) (z tt : Nat → Nat) (a1 : Nat → Nat) (m1 : Mem)  (fu : Nat) (m1' : Mem) (hf : pX2_begin fu m1 = some m1') : MetV l yX2_begin wsX2_begin ({ frames := 1, cells := 0, slots := 0, locals := 20 } : Room) D z tt ([.ref (a1 0)] : List Value) (WDay z a1 m1) (WDay z a1 m1') := by
  intro sz
  refine Met.ofW (cc := cX2_begin) (maxL := 2) (ret := none) (by decide) rfl ?_
  intro p e s m args below meth c s₁ B hml hv
  obtain ⟨rfl, hsz, hP, hK, hD0, hT, hN⟩ := hv
  have hx := B.exec
  have hb := B.bytes
  have hr := B.returns
  have hts := atoms_spec (ws := wsX2_begin) B.pre
  have hown : s.vm.findClass RX2 = some m.cls := findClass_of_methodNamed B.named
  have hlocks := B.notSynchronized
  subst hsz
  have hD := hD0.self (sz := s.heap.size)
  generalize hAe : va_A (WDay z a1 m1) s.heap.size = A at hD hT ⊢
  have hA : ∀ q : Nat, s.heap.size ≤ q → A q := fun q h => by rw [← hAe]; exact Or.inr h
  have hS : va_S A s.heap s.heap [] := va_S.rf
  have hl := lv_entry ([.ref (a1 0)] : List Value) (n := 2) (Nat.le_of_ble_eq_true rfl)
  rw [lg_entry_eq]
  generalize (lg_sl ([.ref (a1 0)] : List Value) ++ List.replicate (2 - (lg_sl ([.ref (a1 0)] : List Value)).length) Slot.unset).toArray = ls at hl ⊢
  have hl : lv_has ls 2 [(0, .ref (a1 0))] := hl
  have iX1 : ∀ w ∈ wsX10, w ∈ wsX2_begin := by decide +kernel
  have iX2 : ∀ w ∈ wsX20, w ∈ wsX2_begin := by decide +kernel
  unfold pX2_begin at hf
  refine lv_aload_n hx hb dX2_begin_0 rfl (lv_at hl 0 rfl) ?_
  refine lv_iconst (v := 0) hx hb dX2_begin_1 (by decide) ?_
  refine z_put (ci := 2) (v := .int 0) (ty := .int) (C := RX2) (T := TX2) (N := 8) hx hb hts iX2 tyX2 tyX2_ok nmX2 hown hK hP hD hS 0 rfl rfl 6 (by decide) (hts (.fieldLink RX2 53 "FilledForOne$Day" "minute" "I") (by decide +kernel)) (fun _ h9 => h9) rfl (by decide +kernel) rfl rfl (Nat.le_of_ble_eq_true rfl) dX2_begin_2 (fun (w9 : Mem) => (WDay z a1 w9)) (up2 m1 0 6 0) rfl (fun y1 ey1 H locs hP hD hS => ?_)
  have hf := lt_use ey1 hf
  refine lv_aload_n hx hb dX2_begin_5 rfl (lv_at hl 0 rfl) ?_
  refine lv_iconst (v := 0) hx hb dX2_begin_6 (by decide) ?_
  refine z_put (ci := 2) (v := .int 0) (ty := .int) (C := RX2) (T := TX2) (N := 8) hx hb hts iX2 tyX2 tyX2_ok nmX2 hown hK hP hD hS 0 rfl rfl 5 (by decide) (hts (.fieldLink RX2 50 "FilledForOne$Day" "lined" "I") (by decide +kernel)) (fun _ h9 => h9) rfl (by decide +kernel) rfl rfl (Nat.le_of_ble_eq_true rfl) dX2_begin_7 (fun (w9 : Mem) => (WDay z a1 w9)) (up2 y1 0 5 0) rfl (fun y2 ey2 H locs hP hD hS => ?_)
  have hf := lt_use ey2 hf
  refine lv_iconst (v := 0) hx hb dX2_begin_10 (by decide) ?_
  refine lv_istore_n (lv' := [(1, .int 0), (0, .ref (a1 0))]) hx hb dX2_begin_11 rfl hl (by decide) rfl (fun ls hl => ?_)
  obtain ⟨F5, eF5, hf⟩ := zl2_use hf
  have L12_F5 : ∀ (n : Nat) (x3 : Int32) (y4 : Mem) (H : Heap) (locs : List Loc), va_P D vwCl (WDay z a1 y4) H → va_D A (WDay z a1 y4) → va_S A s.heap H locs → ∀ (ls : Array Slot), lv_has ls 2 [(0, .ref (a1 0)), (1, .int x3)] → zl2 F5 n x3 y4 = some m1' → GV p l e (headSpec wsX2_begin ({ frames := 1, cells := 0, slots := 0, locals := 20 } : Room)).room s m ([.ref (a1 0)] : List Value).toArray below meth c A D z (WDay z a1 m1') H locs (F0 m 12 ls []) := by
    intro n
    induction n with
    | zero =>
      intro x3 y4 H locs hP hD hS ls hl hf
      exact no_none hf
    | succ n ih7 =>
      intro x3 y4 H locs hP hD hS ls hl hf
      have hf := zl2_s eF5 hf
      refine lv_iload_n hx hb dX2_begin_12 rfl (lv_at hl 1 rfl) ?_
      refine lv_aload_n hx hb dX2_begin_13 rfl (lv_at hl 0 rfl) ?_
      refine va_get (D := D) (ci := 2) (v := .int (y4 0 4)) (C := RX2) (T := TX2) (N := 8) hx hb hts iX2 hown hK hP 0 rfl rfl 4 (by decide) (hts (.fieldLink RX2 46 "FilledForOne$Day" "known" "I") (by decide +kernel)) (fun _ h9 => h9) rfl dX2_begin_14 ?_
      refine lv_icmp_ge (tgt := 36) hx hb dX2_begin_17 (by decide) (fun c8 => ?_) (fun c8 => ?_)
      · have hf := if_t c8 hf
        refine lv_iconst (v := 0) hx hb dX2_begin_36 (by decide) ?_
        refine lv_istore_n (lv' := [(1, .int 0), (0, .ref (a1 0))]) hx hb dX2_begin_37 rfl hl (by decide) rfl (fun ls hl => ?_)
        obtain ⟨F11, eF11, hf⟩ := zl2_use hf
        have L38_F11 : ∀ (n : Nat) (x9 : Int32) (y10 : Mem) (H : Heap) (locs : List Loc), va_P D vwCl (WDay z a1 y10) H → va_D A (WDay z a1 y10) → va_S A s.heap H locs → ∀ (ls : Array Slot), lv_has ls 2 [(0, .ref (a1 0)), (1, .int x9)] → zl2 F11 n x9 y10 = some m1' → GV p l e (headSpec wsX2_begin ({ frames := 1, cells := 0, slots := 0, locals := 20 } : Room)).room s m ([.ref (a1 0)] : List Value).toArray below meth c A D z (WDay z a1 m1') H locs (F0 m 38 ls []) := by
          intro n
          induction n with
          | zero =>
            intro x9 y10 H locs hP hD hS ls hl hf
            exact no_none hf
          | succ n ih13 =>
            intro x9 y10 H locs hP hD hS ls hl hf
            have hf := zl2_s eF11 hf
            refine lv_iload_n hx hb dX2_begin_38 rfl (lv_at hl 1 rfl) ?_
            refine lv_aload_n hx hb dX2_begin_39 rfl (lv_at hl 0 rfl) ?_
            refine va_get (D := D) (ci := 2) (v := .ref (a1 14)) (C := RX2) (T := TX2) (N := 8) hx hb hts iX2 hown hK hP 0 rfl rfl 2 (by decide) (hts (.fieldLink RX2 32 "FilledForOne$Day" "kettles" "[LFilledForOne$Kettle;") (by decide +kernel)) (fun _ h9 => h9) rfl dX2_begin_40 ?_
            refine z_alen hx hb hK hP 14 2 rfl rfl (v := 2) rfl dX2_begin_43 ?_
            refine lv_icmp_ge (tgt := 62) hx hb dX2_begin_44 (by decide) (fun c14 => ?_) (fun c14 => ?_)
            · have hf := if_t c14 hf
              cases hf
              exact ret_v hx hb hr hlocks hK hP hD hS dX2_begin_62
            · have hf := if_f c14 hf
              refine lv_aload_n hx hb dX2_begin_47 rfl (lv_at hl 0 rfl) ?_
              refine va_get (D := D) (ci := 2) (v := .ref (a1 14)) (C := RX2) (T := TX2) (N := 8) hx hb hts iX2 hown hK hP 0 rfl rfl 2 (by decide) (hts (.fieldLink RX2 32 "FilledForOne$Day" "kettles" "[LFilledForOne$Kettle;") (by decide +kernel)) (fun _ h9 => h9) rfl dX2_begin_48 ?_
              refine lv_iload_n hx hb dX2_begin_51 rfl (lv_at hl 1 rfl) ?_
              obtain ⟨h15, hf⟩ := ck_use hf
              refine z_ald hx hb hK hP 14 2 (C := "FilledForOne$Kettle") (g := (fun j => a1 (3 + j))) rfl rfl h15 dX2_begin_52 ?_
              obtain ⟨y16, q17, hf⟩ := bd_use hf
              obtain ⟨y18, ey18⟩ : ∃ w : Mem, w = va_up y10 (3 + x9.toNatClampNeg) y16 := ⟨_, rfl⟩
              have hf := lt_use ey18 hf
              refine z_goV (va_runV (As := []) (rest := []) ⟨hx, hb, hml, hown, hts⟩ (tX3_begin l D z tt (a1 (3 + x9.toNatClampNeg)) (y10 (3 + x9.toNatClampNeg))  fu y16 q17 _) (cwV 0 hts gX2_begin_X3_begin rfl rfl rfl (by decide +kernel) ⟨Nat.le_of_ble_eq_true rfl, Nat.le_of_ble_eq_true rfl⟩) (z_preV hK hP hD hS hA hT hN [(3 + x9.toNatClampNeg)] (js1 (WDay_k z a1 y10 (vp_lt h15))) (nd1 _) (va_recv hK hP (ci := 3) (q0 := (3 + x9.toNatClampNeg)) rfl (WDay_k z a1 y10 (vp_lt h15)))) rfl rfl hl.1 rfl (lv_room (Nat.le_of_ble_eq_true rfl)) dX2_begin_53 ⟨Nat.zero_le _, Nat.zero_le _⟩) hP hD hS hA [(3 + x9.toNatClampNeg)] (js1 (WDay_k z a1 y10 (vp_lt h15))) (nd1 _) rfl (ws1 := (WDay z a1 y18)) (by rw [ey18]; exact (WDay_sk z a1 y10 y16 (vp_lt h15))) (fun H locs hP hD hS => ?_)
              obtain ⟨x19, ex19⟩ : ∃ y : Int32, y = x9 + 1 := ⟨_, rfl⟩
              have hf := lt_use ex19 hf
              refine lv_iinc (v := x19) (lv' := [(1, .int x19), (0, .ref (a1 0))]) hx hb dX2_begin_56 hl (k := 1) rfl (by rw [ex19]; rfl) (by decide) rfl (fun ls hl => ?_)
              refine lv_goto (tgt := 38) hx hb dX2_begin_59 (by decide) ?_
              exact ih13 _ _ _ _ hP hD hS _ (lv_sub hl [1, 0] rfl) hf
        exact L38_F11 fu _ _ _ _ hP hD hS _ (lv_sub hl [1, 0] rfl) hf
      · have hf := if_f c8 hf
        refine lv_aload_n hx hb dX2_begin_20 rfl (lv_at hl 0 rfl) ?_
        refine va_get (D := D) (ci := 2) (v := .ref (a1 13)) (C := RX2) (T := TX2) (N := 8) hx hb hts iX2 hown hK hP 0 rfl rfl 1 (by decide) (hts (.fieldLink RX2 25 "FilledForOne$Day" "comers" "[LFilledForOne$Comer;") (by decide +kernel)) (fun _ h9 => h9) rfl dX2_begin_21 ?_
        refine lv_iload_n hx hb dX2_begin_24 rfl (lv_at hl 1 rfl) ?_
        obtain ⟨h20, hf⟩ := ck_use hf
        refine z_ald hx hb hK hP 13 1 (C := "FilledForOne$Comer") (g := (fun j => a1 (5 + j))) rfl rfl h20 dX2_begin_25 ?_
        refine lv_iconst (v := 0) hx hb dX2_begin_26 (by decide) ?_
        refine z_put (ci := 1) (v := .int 0) (ty := .int) (C := RX1) (T := TX1) (N := 7) hx hb hts iX1 tyX1 tyX1_ok nmX1 hown hK hP hD hS (5 + x3.toNatClampNeg) (WDay_c z a1 y4 (vp_lt h20)) rfl 5 (by decide) (hts (.fieldLink RX2 63 "FilledForOne$Comer" "state" "I") (by decide +kernel)) (fun _ h9 => h9) rfl (by decide +kernel) rfl rfl (Nat.le_of_ble_eq_true rfl) dX2_begin_27 (fun (w9 : Mem) => (WDay z a1 w9)) (up2 y4 (5 + x3.toNatClampNeg) 5 0) (WDay_sc z a1 y4 (upd (y4 (5 + x3.toNatClampNeg)) 5 0) (vp_lt h20)) (fun y21 ey21 H locs hP hD hS => ?_)
        have hf := lt_use ey21 hf
        obtain ⟨x22, ex22⟩ : ∃ y : Int32, y = x3 + 1 := ⟨_, rfl⟩
        have hf := lt_use ex22 hf
        refine lv_iinc (v := x22) (lv' := [(1, .int x22), (0, .ref (a1 0))]) hx hb dX2_begin_30 hl (k := 1) rfl (by rw [ex22]; rfl) (by decide) rfl (fun ls hl => ?_)
        refine lv_goto (tgt := 12) hx hb dX2_begin_33 (by decide) ?_
        exact ih7 _ _ _ _ hP hD hS _ (lv_sub hl [1, 0] rfl) hf
  exact L12_F5 fu _ _ _ _ hP hD hS _ (lv_sub hl [1, 0] rfl) hf
def pX2_hasComer (fu : Nat) (m1 : Mem) (p1 : Int32) : Option Int32 :=
  if p1 < 0 then
    some 0
  else
    if (m1 0 4) ≤ p1 then
      some 0
    else
      some 1
set_option maxHeartbeats 4000000 in
set_option maxRecDepth 100000 in
theorem tX2_hasComer (l : Launch) (D : va_G) (z tt : Nat → Nat) (a1 : Nat → Nat) (m1 : Mem) (p1 : Int32) (fu : Nat) (rr : Int32) (hf : pX2_hasComer fu m1 p1 = some rr) : MetI l yX2_hasComer wsX2_hasComer ({ frames := 0, cells := 0, slots := 0, locals := 0 } : Room) D z tt ([.ref (a1 0), .int p1] : List Value) (WDay z a1 m1) rr (WDay z a1 m1) := by
  intro sz
  refine Met.ofW (cc := cX2_hasComer) (maxL := 2) (ret := (some .boolean)) (by decide) rfl ?_
  intro p e s m args below meth c s₁ B hml hv
  obtain ⟨rfl, hsz, hP, hK, hD0, hT, hN⟩ := hv
  have hx := B.exec
  have hb := B.bytes
  have hr := B.returns
  have hts := atoms_spec (ws := wsX2_hasComer) B.pre
  have hown : s.vm.findClass RX2 = some m.cls := findClass_of_methodNamed B.named
  have hlocks := B.notSynchronized
  subst hsz
  have hD := hD0.self (sz := s.heap.size)
  generalize hAe : va_A (WDay z a1 m1) s.heap.size = A at hD hT ⊢
  have hA : ∀ q : Nat, s.heap.size ≤ q → A q := fun q h => by rw [← hAe]; exact Or.inr h
  have hS : va_S A s.heap s.heap [] := va_S.rf
  have hl := lv_entry ([.ref (a1 0), .int p1] : List Value) (n := 2) (Nat.le_of_ble_eq_true rfl)
  rw [lg_entry_eq]
  generalize (lg_sl ([.ref (a1 0), .int p1] : List Value) ++ List.replicate (2 - (lg_sl ([.ref (a1 0), .int p1] : List Value)).length) Slot.unset).toArray = ls at hl ⊢
  have hl : lv_has ls 2 [(0, .ref (a1 0)), (1, .int p1)] := hl
  have iX2 : ∀ w ∈ wsX20, w ∈ wsX2_hasComer := by decide +kernel
  unfold pX2_hasComer at hf
  refine lv_iload_n hx hb dX2_hasComer_0 rfl (lv_at hl 1 rfl) ?_
  refine lv_if_lt (tgt := 16) hx hb dX2_hasComer_1 (by decide) (fun c1 => ?_) (fun c1 => ?_)
  · have hf := if_t c1 hf
    refine lv_iconst (v := 0) hx hb dX2_hasComer_16 (by decide) ?_
    cases hf
    exact ret_z hx hb hr hlocks hK hP hD hS (by decide) dX2_hasComer_17
  · have hf := if_f c1 hf
    refine lv_iload_n hx hb dX2_hasComer_4 rfl (lv_at hl 1 rfl) ?_
    refine lv_aload_n hx hb dX2_hasComer_5 rfl (lv_at hl 0 rfl) ?_
    refine va_get (D := D) (ci := 2) (v := .int (m1 0 4)) (C := RX2) (T := TX2) (N := 8) hx hb hts iX2 hown hK hP 0 rfl rfl 4 (by decide) (hts (.fieldLink RX2 46 "FilledForOne$Day" "known" "I") (by decide +kernel)) (fun _ h9 => h9) rfl dX2_hasComer_6 ?_
    refine lv_icmp_ge (tgt := 16) hx hb dX2_hasComer_9 (by decide) (fun c2 => ?_) (fun c2 => ?_)
    · have hf := if_t c2 hf
      refine lv_iconst (v := 0) hx hb dX2_hasComer_16 (by decide) ?_
      cases hf
      exact ret_z hx hb hr hlocks hK hP hD hS (by decide) dX2_hasComer_17
    · have hf := if_f c2 hf
      refine lv_iconst (v := 1) hx hb dX2_hasComer_12 (by decide) ?_
      refine lv_goto (tgt := 17) hx hb dX2_hasComer_13 (by decide) ?_
      cases hf
      exact ret_z hx hb hr hlocks hK hP hD hS (by decide) dX2_hasComer_17
def pX2_kettlesInUse (fu : Nat) (m1 : Mem) : Option Int32 :=
  some (m1 1 7)
set_option maxHeartbeats 4000000 in
set_option maxRecDepth 100000 in
theorem tX2_kettlesInUse (l : Launch) (D : va_G) (z tt : Nat → Nat) (a1 : Nat → Nat) (m1 : Mem)  (fu : Nat) (rr : Int32) (hf : pX2_kettlesInUse fu m1 = some rr) : MetI l yX2_kettlesInUse wsX2_kettlesInUse ({ frames := 0, cells := 0, slots := 0, locals := 0 } : Room) D z tt ([.ref (a1 0)] : List Value) (WDay z a1 m1) rr (WDay z a1 m1) := by
  intro sz
  refine Met.ofW (cc := cX2_kettlesInUse) (maxL := 1) (ret := (some .int)) (by decide) rfl ?_
  intro p e s m args below meth c s₁ B hml hv
  obtain ⟨rfl, hsz, hP, hK, hD0, hT, hN⟩ := hv
  have hx := B.exec
  have hb := B.bytes
  have hr := B.returns
  have hts := atoms_spec (ws := wsX2_kettlesInUse) B.pre
  have hown : s.vm.findClass RX2 = some m.cls := findClass_of_methodNamed B.named
  have hlocks := B.notSynchronized
  subst hsz
  have hD := hD0.self (sz := s.heap.size)
  generalize hAe : va_A (WDay z a1 m1) s.heap.size = A at hD hT ⊢
  have hA : ∀ q : Nat, s.heap.size ≤ q → A q := fun q h => by rw [← hAe]; exact Or.inr h
  have hS : va_S A s.heap s.heap [] := va_S.rf
  have hl := lv_entry ([.ref (a1 0)] : List Value) (n := 1) (Nat.le_of_ble_eq_true rfl)
  rw [lg_entry_eq]
  generalize (lg_sl ([.ref (a1 0)] : List Value) ++ List.replicate (1 - (lg_sl ([.ref (a1 0)] : List Value)).length) Slot.unset).toArray = ls at hl ⊢
  have hl : lv_has ls 1 [(0, .ref (a1 0))] := hl
  have iX2 : ∀ w ∈ wsX20, w ∈ wsX2_kettlesInUse := by decide +kernel
  unfold pX2_kettlesInUse at hf
  refine lv_aload_n hx hb dX2_kettlesInUse_0 rfl (lv_at hl 0 rfl) ?_
  refine va_get (D := D) (ci := 2) (v := .ref (a1 1)) (C := RX2) (T := TX2) (N := 8) hx hb hts iX2 hown hK hP 0 rfl rfl 0 (by decide) (hts (.fieldLink RX2 18 "FilledForOne$Day" "settings" "[I") (by decide +kernel)) (fun _ h9 => h9) rfl dX2_kettlesInUse_1 ?_
  refine lv_bipush (v := 7) hx hb dX2_kettlesInUse_4 (by decide) ?_
  refine z_ialdc hx hb hK hP 1 rfl (i := 7) (k := 7) (by decide) (Nat.le_of_ble_eq_true rfl) dX2_kettlesInUse_6 ?_
  cases hf
  exact ret_i hx hb hr hlocks hK hP hD hS dX2_kettlesInUse_7
def pX2_highestLevel (fu : Nat) (m1 : Mem) : Option Int32 :=
  zl2 (fun g4 (x1 : Int32) (x2 : Int32) =>
    bd (pX2_kettlesInUse fu m1) fun r6 =>
    if r6 ≤ x2 then
      some x1
    else
      ck x2 2 <|
      lt' ((imax x1 (m1 (3 + x2.toNatClampNeg) 0)) : Int32) fun x10 =>
      lt' (x2 + 1) fun x11 =>
      g4 x10 x11) fu 0 0
set_option maxHeartbeats 4000000 in
set_option maxRecDepth 100000 in
theorem tX2_highestLevel (l : Launch) (D : va_G) (z tt : Nat → Nat) (a1 : Nat → Nat) (m1 : Mem)  (fu : Nat) (rr : Int32) (hf : pX2_highestLevel fu m1 = some rr) : MetI l yX2_highestLevel wsX2_highestLevel ({ frames := 1, cells := 0, slots := 0, locals := 20 } : Room) D z tt ([.ref (a1 0)] : List Value) (WDay z a1 m1) rr (WDay z a1 m1) := by
  intro sz
  refine Met.ofW (cc := cX2_highestLevel) (maxL := 3) (ret := (some .int)) (by decide) rfl ?_
  intro p e s m args below meth c s₁ B hml hv
  obtain ⟨rfl, hsz, hP, hK, hD0, hT, hN⟩ := hv
  have hx := B.exec
  have hb := B.bytes
  have hr := B.returns
  have hts := atoms_spec (ws := wsX2_highestLevel) B.pre
  have hown : s.vm.findClass RX2 = some m.cls := findClass_of_methodNamed B.named
  have hlocks := B.notSynchronized
  subst hsz
  have hD := hD0.self (sz := s.heap.size)
  generalize hAe : va_A (WDay z a1 m1) s.heap.size = A at hD hT ⊢
  have hA : ∀ q : Nat, s.heap.size ≤ q → A q := fun q h => by rw [← hAe]; exact Or.inr h
  have hS : va_S A s.heap s.heap [] := va_S.rf
  have hl := lv_entry ([.ref (a1 0)] : List Value) (n := 3) (Nat.le_of_ble_eq_true rfl)
  rw [lg_entry_eq]
  generalize (lg_sl ([.ref (a1 0)] : List Value) ++ List.replicate (3 - (lg_sl ([.ref (a1 0)] : List Value)).length) Slot.unset).toArray = ls at hl ⊢
  have hl : lv_has ls 3 [(0, .ref (a1 0))] := hl
  have iX2 : ∀ w ∈ wsX20, w ∈ wsX2_highestLevel := by decide +kernel
  have iX3 : ∀ w ∈ wsX30, w ∈ wsX2_highestLevel := by decide +kernel
  unfold pX2_highestLevel at hf
  refine lv_iconst (v := 0) hx hb dX2_highestLevel_0 (by decide) ?_
  refine lv_istore_n (lv' := [(1, .int 0), (0, .ref (a1 0))]) hx hb dX2_highestLevel_1 rfl hl (by decide) rfl (fun ls hl => ?_)
  refine lv_iconst (v := 0) hx hb dX2_highestLevel_2 (by decide) ?_
  refine lv_istore_n (lv' := [(2, .int 0), (1, .int 0), (0, .ref (a1 0))]) hx hb dX2_highestLevel_3 rfl hl (by decide) rfl (fun ls hl => ?_)
  obtain ⟨F3, eF3, hf⟩ := zl2_use hf
  have L4_F3 : ∀ (n : Nat) (x1 : Int32) (x2 : Int32) (H : Heap) (locs : List Loc), va_P D vwCl (WDay z a1 m1) H → va_D A (WDay z a1 m1) → va_S A s.heap H locs → ∀ (ls : Array Slot), lv_has ls 3 [(0, .ref (a1 0)), (1, .int x1), (2, .int x2)] → zl2 F3 n x1 x2 = some rr → GI p l e (headSpec wsX2_highestLevel ({ frames := 1, cells := 0, slots := 0, locals := 20 } : Room)).room s m ([.ref (a1 0)] : List Value).toArray below meth c A D z rr (WDay z a1 m1) H locs (F0 m 4 ls []) := by
    intro n
    induction n with
    | zero =>
      intro x1 x2 H locs hP hD hS ls hl hf
      exact no_none hf
    | succ n ih5 =>
      intro x1 x2 H locs hP hD hS ls hl hf
      have hf := zl2_s eF3 hf
      refine lv_iload_n hx hb dX2_highestLevel_4 rfl (lv_at hl 2 rfl) ?_
      refine lv_aload_n hx hb dX2_highestLevel_5 rfl (lv_at hl 0 rfl) ?_
      obtain ⟨r6, q7, hf⟩ := bd_use hf
      refine z_goI (va_runV (As := []) (rest := [.int x2]) ⟨hx, hb, hml, hown, hts⟩ (tX2_kettlesInUse l D z tt a1 m1  fu r6 q7 _) (cwV 0 hts gX2_highestLevel_X2_kettlesInUse rfl rfl rfl (by decide +kernel) ⟨Nat.le_of_ble_eq_true rfl, Nat.le_of_ble_eq_true rfl⟩) (z_preV hK hP hD hS hA hT hN [0, 1, 2, 3, 4, 5, 6, 7, 8, 9, 10, 11, 12, 13, 14] rfl rfl (va_recv hK hP (ci := 2) (q0 := 0) rfl rfl)) rfl rfl hl.1 rfl (lv_room (Nat.le_of_ble_eq_true rfl)) dX2_highestLevel_6 ⟨Nat.zero_le _, Nat.zero_le _⟩) hP hD hS hA [0, 1, 2, 3, 4, 5, 6, 7, 8, 9, 10, 11, 12, 13, 14] rfl rfl rfl (ws1 := (WDay z a1 m1)) rfl (fun H locs hP hD hS => ?_)
      refine lv_icmp_ge (tgt := 32) hx hb dX2_highestLevel_9 (by decide) (fun c8 => ?_) (fun c8 => ?_)
      · have hf := if_t c8 hf
        refine lv_iload_n hx hb dX2_highestLevel_32 rfl (lv_at hl 1 rfl) ?_
        cases hf
        exact ret_i hx hb hr hlocks hK hP hD hS dX2_highestLevel_33
      · have hf := if_f c8 hf
        refine lv_iload_n hx hb dX2_highestLevel_12 rfl (lv_at hl 1 rfl) ?_
        refine lv_aload_n hx hb dX2_highestLevel_13 rfl (lv_at hl 0 rfl) ?_
        refine va_get (D := D) (ci := 2) (v := .ref (a1 14)) (C := RX2) (T := TX2) (N := 8) hx hb hts iX2 hown hK hP 0 rfl rfl 2 (by decide) (hts (.fieldLink RX2 32 "FilledForOne$Day" "kettles" "[LFilledForOne$Kettle;") (by decide +kernel)) (fun _ h9 => h9) rfl dX2_highestLevel_14 ?_
        refine lv_iload_n hx hb dX2_highestLevel_17 rfl (lv_at hl 2 rfl) ?_
        obtain ⟨h9, hf⟩ := ck_use hf
        refine z_ald hx hb hK hP 14 2 (C := "FilledForOne$Kettle") (g := (fun j => a1 (3 + j))) rfl rfl h9 dX2_highestLevel_18 ?_
        refine va_get (D := D) (ci := 3) (v := .int (m1 (3 + x2.toNatClampNeg) 0)) (C := RX3) (T := TX3) (N := 5) hx hb hts iX3 hown hK hP (3 + x2.toNatClampNeg) (WDay_k z a1 m1 (vp_lt h9)) rfl 0 (by decide) (hts (.fieldLink RX2 134 "FilledForOne$Kettle" "level" "I") (by decide +kernel)) (fun _ h9 => h9) rfl dX2_highestLevel_19 ?_
        refine z_max hx hb (by rw [hml]; exact hl.1.symm) hown (hts (.methodLink RX2 183 Lib.Math.max.name) (by decide +kernel)) (hts (.static Lib.Math.max.name) (by decide +kernel)) (hts (.initialized "java/lang/Math") (by decide +kernel)) (hts (.code Lib.Math.max.name Lib.Math.max.code 2 (some .int)) (by decide +kernel)) (Nat.le_of_ble_eq_true rfl) (Nat.le_of_ble_eq_true rfl) dX2_highestLevel_22 (Nat.zero_le _) (Nat.zero_le _) ?_
        refine lv_topi (fun x10 ex10 => ?_)
        have hf := lt_use ex10 hf
        refine lv_istore_n (lv' := [(1, .int x10), (0, .ref (a1 0)), (2, .int x2)]) hx hb dX2_highestLevel_25 rfl hl (by decide) rfl (fun ls hl => ?_)
        obtain ⟨x11, ex11⟩ : ∃ y : Int32, y = x2 + 1 := ⟨_, rfl⟩
        have hf := lt_use ex11 hf
        refine lv_iinc (v := x11) (lv' := [(2, .int x11), (1, .int x10), (0, .ref (a1 0))]) hx hb dX2_highestLevel_26 hl (k := 2) rfl (by rw [ex11]; rfl) (by decide) rfl (fun ls hl => ?_)
        refine lv_goto (tgt := 4) hx hb dX2_highestLevel_29 (by decide) ?_
        exact ih5 _ _ _ _ hP hD hS _ (lv_sub hl [2, 1, 0] rfl) hf
  exact L4_F3 fu _ _ _ _ hP hD hS _ (lv_sub hl [2, 1, 0] rfl) hf
def pX2_settingRefusal (fu : Nat) (m1 : Mem) (p1 : Int32) (p2 : Int32) : Option Int32 :=
  if p1 < 0 then
    some (-1)
  else
    if p1 < 8 then
      ck p1 8 <|
      if (List.getD [2, 0, 1, 1, 0, 0, 0, 1] p1.toNatClampNeg 0 : Int32) ≤ p2 then
        ck p1 8 <|
        if p2 ≤ (List.getD [11, 9, 20, 9, 9, 9, 11, 2] p1.toNatClampNeg 0 : Int32) then
          jn1 (fun (x7 : Int32) =>
            jn1 (fun (x9 : Int32) =>
              if x7 = 0 then
                if x9 = 0 then
                  some 0
                else
                  some (-3)
              else
                some (-3)) fun k10 =>
            if p1 = 7 then
              if p2 = (m1 1 7) then
                k10 0
              else
                if (m1 0 6) = 0 then
                  k10 0
                else
                  k10 1
            else
              k10 0) fun k8 =>
          if p1 = 0 then
            bd (pX2_highestLevel fu m1) fun r17 =>
            if r17 ≤ p2 then
              k8 0
            else
              k8 1
          else
            k8 0
        else
          some (-6)
      else
        some (-4)
    else
      some (-1)
set_option maxHeartbeats 4000000 in
set_option maxRecDepth 100000 in
theorem tX2_settingRefusal (l : Launch) (D : va_G) (z tt : Nat → Nat) (a1 : Nat → Nat) (m1 : Mem) (p1 : Int32) (p2 : Int32) (fu : Nat) (rr : Int32) (hf : pX2_settingRefusal fu m1 p1 p2 = some rr) : MetI l yX2_settingRefusal wsX2_settingRefusal ({ frames := 2, cells := 0, slots := 0, locals := 42 } : Room) D z tt ([.ref (a1 0), .int p1, .int p2] : List Value) (WDay z a1 m1) rr (WDay z a1 m1) := by
  intro sz
  refine Met.ofW (cc := cX2_settingRefusal) (maxL := 5) (ret := (some .int)) (by decide) rfl ?_
  intro p e s m args below meth c s₁ B hml hv
  obtain ⟨rfl, hsz, hP, hK, hD0, hT, hN⟩ := hv
  have hx := B.exec
  have hb := B.bytes
  have hr := B.returns
  have hts := atoms_spec (ws := wsX2_settingRefusal) B.pre
  have hown : s.vm.findClass RX2 = some m.cls := findClass_of_methodNamed B.named
  have hlocks := B.notSynchronized
  subst hsz
  have hD := hD0.self (sz := s.heap.size)
  generalize hAe : va_A (WDay z a1 m1) s.heap.size = A at hD hT ⊢
  have hA : ∀ q : Nat, s.heap.size ≤ q → A q := fun q h => by rw [← hAe]; exact Or.inr h
  have hS : va_S A s.heap s.heap [] := va_S.rf
  have hl := lv_entry ([.ref (a1 0), .int p1, .int p2] : List Value) (n := 5) (Nat.le_of_ble_eq_true rfl)
  rw [lg_entry_eq]
  generalize (lg_sl ([.ref (a1 0), .int p1, .int p2] : List Value) ++ List.replicate (5 - (lg_sl ([.ref (a1 0), .int p1, .int p2] : List Value)).length) Slot.unset).toArray = ls at hl ⊢
  have hl : lv_has ls 5 [(0, .ref (a1 0)), (1, .int p1), (2, .int p2)] := hl
  have iX2 : ∀ w ∈ wsX20, w ∈ wsX2_settingRefusal := by decide +kernel
  unfold pX2_settingRefusal at hf
  refine lv_iload_n hx hb dX2_settingRefusal_0 rfl (lv_at hl 1 rfl) ?_
  refine lv_if_lt (tgt := 13) hx hb dX2_settingRefusal_1 (by decide) (fun c1 => ?_) (fun c1 => ?_)
  · have hf := if_t c1 hf
    refine lv_iconst (v := (-1)) hx hb dX2_settingRefusal_13 (by decide) ?_
    cases hf
    exact ret_i hx hb hr hlocks hK hP hD hS dX2_settingRefusal_14
  · have hf := if_f c1 hf
    refine lv_iload_n hx hb dX2_settingRefusal_4 rfl (lv_at hl 1 rfl) ?_
    refine lv_aload_n hx hb dX2_settingRefusal_5 rfl (lv_at hl 0 rfl) ?_
    refine va_get (D := D) (ci := 2) (v := .ref (a1 1)) (C := RX2) (T := TX2) (N := 8) hx hb hts iX2 hown hK hP 0 rfl rfl 0 (by decide) (hts (.fieldLink RX2 18 "FilledForOne$Day" "settings" "[I") (by decide +kernel)) (fun _ h9 => h9) rfl dX2_settingRefusal_6 ?_
    refine z_alen hx hb hK hP 1 0 rfl rfl (v := 8) rfl dX2_settingRefusal_9 ?_
    refine lv_icmp_lt (tgt := 15) hx hb dX2_settingRefusal_10 (by decide) (fun c2 => ?_) (fun c2 => ?_)
    · have hf := if_t c2 hf
      refine lv_iload_n hx hb dX2_settingRefusal_15 rfl (lv_at hl 2 rfl) ?_
      refine va_getsN (v := .ref (tt 1)) (host := "FilledForOne") hx hb hT.2.1.1 hS hown (va_Nw.use rfl hN.2.2.2.2.2.1) (fun _ h9 => h9) dX2_settingRefusal_16 ?_
      refine lv_iload_n hx hb dX2_settingRefusal_19 rfl (lv_at hl 1 rfl) ?_
      obtain ⟨h3, hf⟩ := ck_use hf
      refine va_ti hx hb hT.2.1.2 hS h3 (v := .int (List.getD [2, 0, 1, 1, 0, 0, 0, 1] p1.toNatClampNeg 0 : Int32)) rfl dX2_settingRefusal_20 ?_
      refine lv_icmp_ge (tgt := 27) hx hb dX2_settingRefusal_21 (by decide) (fun c4 => ?_) (fun c4 => ?_)
      · have hf := if_t c4 hf
        refine lv_iload_n hx hb dX2_settingRefusal_27 rfl (lv_at hl 2 rfl) ?_
        refine va_getsN (v := .ref (tt 2)) (host := "FilledForOne") hx hb hT.2.2.1 hS hown (va_Nw.use rfl hN.2.2.2.2.2.2) (fun _ h9 => h9) dX2_settingRefusal_28 ?_
        refine lv_iload_n hx hb dX2_settingRefusal_31 rfl (lv_at hl 1 rfl) ?_
        obtain ⟨h5, hf⟩ := ck_use hf
        refine va_ti hx hb hT.2.2.2 hS h5 (v := .int (List.getD [11, 9, 20, 9, 9, 9, 11, 2] p1.toNatClampNeg 0 : Int32)) rfl dX2_settingRefusal_32 ?_
        refine lv_icmp_le (tgt := 39) hx hb dX2_settingRefusal_33 (by decide) (fun c6 => ?_) (fun c6 => ?_)
        · have hf := if_t c6 hf
          refine lv_iload_n hx hb dX2_settingRefusal_39 rfl (lv_at hl 1 rfl) ?_
          obtain ⟨k8, ek8, hf⟩ := jn1_use hf
          have B56_k8 : ∀ (x7 : Int32) (H : Heap) (locs : List Loc), va_P D vwCl (WDay z a1 m1) H → va_D A (WDay z a1 m1) → va_S A s.heap H locs → ∀ (ls : Array Slot), lv_has ls 5 [(0, .ref (a1 0)), (1, .int p1), (2, .int p2)] → k8 x7 = some rr → GI p l e (headSpec wsX2_settingRefusal ({ frames := 2, cells := 0, slots := 0, locals := 42 } : Room)).room s m ([.ref (a1 0), .int p1, .int p2] : List Value).toArray below meth c A D z rr (WDay z a1 m1) H locs (F0 m 56 ls [.int x7]) := by
            intro x7 H locs hP hD hS ls hl hf
            have hf := jn1_ap ek8 hf
            refine lv_istore_n (lv' := [(3, .int x7), (0, .ref (a1 0)), (1, .int p1), (2, .int p2)]) hx hb dX2_settingRefusal_56 rfl hl (by decide) rfl (fun ls hl => ?_)
            refine lv_iload_n hx hb dX2_settingRefusal_57 rfl (lv_at hl 2 rfl) ?_
            refine lv_bipush (v := 7) hx hb dX2_settingRefusal_58 (by decide) ?_
            obtain ⟨k10, ek10, hf⟩ := jn1_use hf
            have B86_k10 : ∀ (x9 : Int32) (H : Heap) (locs : List Loc), va_P D vwCl (WDay z a1 m1) H → va_D A (WDay z a1 m1) → va_S A s.heap H locs → ∀ (ls : Array Slot), lv_has ls 5 [(3, .int x7)] → k10 x9 = some rr → GI p l e (headSpec wsX2_settingRefusal ({ frames := 2, cells := 0, slots := 0, locals := 42 } : Room)).room s m ([.ref (a1 0), .int p1, .int p2] : List Value).toArray below meth c A D z rr (WDay z a1 m1) H locs (F0 m 86 ls [.int x9]) := by
              intro x9 H locs hP hD hS ls hl hf
              have hf := jn1_ap ek10 hf
              refine lv_istore (lv' := [(4, .int x9), (3, .int x7)]) hx hb dX2_settingRefusal_86 hl (by decide) rfl (fun ls hl => ?_)
              refine lv_iload_n hx hb dX2_settingRefusal_88 rfl (lv_at hl 1 rfl) ?_
              refine lv_if_ne (tgt := 97) hx hb dX2_settingRefusal_89 (by decide) (fun c11 => ?_) (fun c11 => ?_)
              · have hf := if_f c11 hf
                refine lv_bipush (v := (-3)) hx hb dX2_settingRefusal_97 (by decide) ?_
                refine lv_goto (tgt := 103) hx hb dX2_settingRefusal_99 (by decide) ?_
                cases hf
                exact ret_i hx hb hr hlocks hK hP hD hS dX2_settingRefusal_103
              · have hf := if_t c11 hf
                refine lv_iload hx hb dX2_settingRefusal_92 (lv_at hl 0 rfl) ?_
                refine lv_if_eq (tgt := 102) hx hb dX2_settingRefusal_94 (by decide) (fun c12 => ?_) (fun c12 => ?_)
                · have hf := if_t c12 hf
                  refine lv_iconst (v := 0) hx hb dX2_settingRefusal_102 (by decide) ?_
                  cases hf
                  exact ret_i hx hb hr hlocks hK hP hD hS dX2_settingRefusal_103
                · have hf := if_f c12 hf
                  refine lv_bipush (v := (-3)) hx hb dX2_settingRefusal_97 (by decide) ?_
                  refine lv_goto (tgt := 103) hx hb dX2_settingRefusal_99 (by decide) ?_
                  cases hf
                  exact ret_i hx hb hr hlocks hK hP hD hS dX2_settingRefusal_103
            refine lv_icmp_ne (tgt := 85) hx hb dX2_settingRefusal_60 (by decide) (fun c13 => ?_) (fun c13 => ?_)
            · have hf := if_f c13 hf
              refine lv_iconst (v := 0) hx hb dX2_settingRefusal_85 (by decide) ?_
              exact B86_k10 _ _ _ hP hD hS _ (lv_sub hl [0] rfl) hf
            · have hf := if_t c13 hf
              refine lv_iload_n hx hb dX2_settingRefusal_63 rfl (lv_at hl 3 rfl) ?_
              refine lv_aload_n hx hb dX2_settingRefusal_64 rfl (lv_at hl 1 rfl) ?_
              refine va_get (D := D) (ci := 2) (v := .ref (a1 1)) (C := RX2) (T := TX2) (N := 8) hx hb hts iX2 hown hK hP 0 rfl rfl 0 (by decide) (hts (.fieldLink RX2 18 "FilledForOne$Day" "settings" "[I") (by decide +kernel)) (fun _ h9 => h9) rfl dX2_settingRefusal_65 ?_
              refine lv_bipush (v := 7) hx hb dX2_settingRefusal_68 (by decide) ?_
              refine z_ialdc hx hb hK hP 1 rfl (i := 7) (k := 7) (by decide) (Nat.le_of_ble_eq_true rfl) dX2_settingRefusal_70 ?_
              refine lv_icmp_eq (tgt := 85) hx hb dX2_settingRefusal_71 (by decide) (fun c14 => ?_) (fun c14 => ?_)
              · have hf := if_t c14 hf
                refine lv_iconst (v := 0) hx hb dX2_settingRefusal_85 (by decide) ?_
                exact B86_k10 _ _ _ hP hD hS _ (lv_sub hl [0] rfl) hf
              · have hf := if_f c14 hf
                refine lv_aload_n hx hb dX2_settingRefusal_74 rfl (lv_at hl 1 rfl) ?_
                refine va_get (D := D) (ci := 2) (v := .int (m1 0 6)) (C := RX2) (T := TX2) (N := 8) hx hb hts iX2 hown hK hP 0 rfl rfl 6 (by decide) (hts (.fieldLink RX2 53 "FilledForOne$Day" "minute" "I") (by decide +kernel)) (fun _ h9 => h9) rfl dX2_settingRefusal_75 ?_
                refine lv_if_eq (tgt := 85) hx hb dX2_settingRefusal_78 (by decide) (fun c15 => ?_) (fun c15 => ?_)
                · have hf := if_t c15 hf
                  refine lv_iconst (v := 0) hx hb dX2_settingRefusal_85 (by decide) ?_
                  exact B86_k10 _ _ _ hP hD hS _ (lv_sub hl [0] rfl) hf
                · have hf := if_f c15 hf
                  refine lv_iconst (v := 1) hx hb dX2_settingRefusal_81 (by decide) ?_
                  refine lv_goto (tgt := 86) hx hb dX2_settingRefusal_82 (by decide) ?_
                  exact B86_k10 _ _ _ hP hD hS _ (lv_sub hl [0] rfl) hf
          refine lv_if_ne (tgt := 55) hx hb dX2_settingRefusal_40 (by decide) (fun c16 => ?_) (fun c16 => ?_)
          · have hf := if_f c16 hf
            refine lv_iconst (v := 0) hx hb dX2_settingRefusal_55 (by decide) ?_
            exact B56_k8 _ _ _ hP hD hS _ (lv_sub hl [0, 1, 2] rfl) hf
          · have hf := if_t c16 hf
            refine lv_iload_n hx hb dX2_settingRefusal_43 rfl (lv_at hl 2 rfl) ?_
            refine lv_aload_n hx hb dX2_settingRefusal_44 rfl (lv_at hl 0 rfl) ?_
            obtain ⟨r17, q18, hf⟩ := bd_use hf
            refine z_goI (va_runV (As := []) (rest := [.int p2]) ⟨hx, hb, hml, hown, hts⟩ (tX2_highestLevel l D z tt a1 m1  fu r17 q18 _) (cwV 0 hts gX2_settingRefusal_X2_highestLevel rfl rfl rfl (by decide +kernel) ⟨Nat.le_of_ble_eq_true rfl, Nat.le_of_ble_eq_true rfl⟩) (z_preV hK hP hD hS hA hT hN [0, 1, 2, 3, 4, 5, 6, 7, 8, 9, 10, 11, 12, 13, 14] rfl rfl (va_recv hK hP (ci := 2) (q0 := 0) rfl rfl)) rfl rfl hl.1 rfl (lv_room (Nat.le_of_ble_eq_true rfl)) dX2_settingRefusal_45 ⟨Nat.zero_le _, Nat.zero_le _⟩) hP hD hS hA [0, 1, 2, 3, 4, 5, 6, 7, 8, 9, 10, 11, 12, 13, 14] rfl rfl rfl (ws1 := (WDay z a1 m1)) rfl (fun H locs hP hD hS => ?_)
            refine lv_icmp_ge (tgt := 55) hx hb dX2_settingRefusal_48 (by decide) (fun c19 => ?_) (fun c19 => ?_)
            · have hf := if_t c19 hf
              refine lv_iconst (v := 0) hx hb dX2_settingRefusal_55 (by decide) ?_
              exact B56_k8 _ _ _ hP hD hS _ (lv_sub hl [0, 1, 2] rfl) hf
            · have hf := if_f c19 hf
              refine lv_iconst (v := 1) hx hb dX2_settingRefusal_51 (by decide) ?_
              refine lv_goto (tgt := 56) hx hb dX2_settingRefusal_52 (by decide) ?_
              exact B56_k8 _ _ _ hP hD hS _ (lv_sub hl [0, 1, 2] rfl) hf
        · have hf := if_f c6 hf
          refine lv_bipush (v := (-6)) hx hb dX2_settingRefusal_36 (by decide) ?_
          cases hf
          exact ret_i hx hb hr hlocks hK hP hD hS dX2_settingRefusal_38
      · have hf := if_f c4 hf
        refine lv_bipush (v := (-4)) hx hb dX2_settingRefusal_24 (by decide) ?_
        cases hf
        exact ret_i hx hb hr hlocks hK hP hD hS dX2_settingRefusal_26
    · have hf := if_f c2 hf
      refine lv_iconst (v := (-1)) hx hb dX2_settingRefusal_13 (by decide) ?_
      cases hf
      exact ret_i hx hb hr hlocks hK hP hD hS dX2_settingRefusal_14
def pX2_firstReady (fu : Nat) (m1 : Mem) (p1 : Int32) : Option (Option Nat) :=
  zl1 (fun g3 (x1 : Int32) =>
    bd (pX2_kettlesInUse fu m1) fun r5 =>
    if r5 ≤ x1 then
      some none
    else
      ck x1 2 <|
      bd (pX3_isReady fu (m1 (3 + x1.toNatClampNeg)) (m1 0 6) p1) fun r9 =>
      if r9 = 0 then
        lt' (x1 + 1) fun x12 =>
        g3 x12
      else
        ck x1 2 <|
        some (some (x1.toNatClampNeg))) fu 0
set_option maxHeartbeats 4000000 in
set_option maxRecDepth 100000 in
theorem tX2_firstReady (l : Launch) (D : va_G) (z tt : Nat → Nat) (a1 : Nat → Nat) (m1 : Mem) (p1 : Int32) (fu : Nat) (rr : Option Nat) (hf : pX2_firstReady fu m1 p1 = some rr) : MetQ l yX2_firstReady wsX2_firstReady ({ frames := 1, cells := 0, slots := 0, locals := 22 } : Room) D z tt ([.ref (a1 0), .int p1] : List Value) (WDay z a1 m1) (rr.map fun i => a1 (3 + i)) (WDay z a1 m1) := by
  intro sz
  refine Met.ofW (cc := cX2_firstReady) (maxL := 3) (ret := (some (.object "FilledForOne$Kettle"))) (by decide) rfl ?_
  intro p e s m args below meth c s₁ B hml hv
  obtain ⟨rfl, hsz, hP, hK, hD0, hT, hN⟩ := hv
  have hx := B.exec
  have hb := B.bytes
  have hr := B.returns
  have hts := atoms_spec (ws := wsX2_firstReady) B.pre
  have hown : s.vm.findClass RX2 = some m.cls := findClass_of_methodNamed B.named
  have hlocks := B.notSynchronized
  subst hsz
  have hD := hD0.self (sz := s.heap.size)
  generalize hAe : va_A (WDay z a1 m1) s.heap.size = A at hD hT ⊢
  have hA : ∀ q : Nat, s.heap.size ≤ q → A q := fun q h => by rw [← hAe]; exact Or.inr h
  have hS : va_S A s.heap s.heap [] := va_S.rf
  have hl := lv_entry ([.ref (a1 0), .int p1] : List Value) (n := 3) (Nat.le_of_ble_eq_true rfl)
  rw [lg_entry_eq]
  generalize (lg_sl ([.ref (a1 0), .int p1] : List Value) ++ List.replicate (3 - (lg_sl ([.ref (a1 0), .int p1] : List Value)).length) Slot.unset).toArray = ls at hl ⊢
  have hl : lv_has ls 3 [(0, .ref (a1 0)), (1, .int p1)] := hl
  have iX2 : ∀ w ∈ wsX20, w ∈ wsX2_firstReady := by decide +kernel
  unfold pX2_firstReady at hf
  refine lv_iconst (v := 0) hx hb dX2_firstReady_0 (by decide) ?_
  refine lv_istore_n (lv' := [(2, .int 0), (0, .ref (a1 0)), (1, .int p1)]) hx hb dX2_firstReady_1 rfl hl (by decide) rfl (fun ls hl => ?_)
  obtain ⟨F2, eF2, hf⟩ := zl1_use hf
  have L2_F2 : ∀ (n : Nat) (x1 : Int32) (H : Heap) (locs : List Loc), va_P D vwCl (WDay z a1 m1) H → va_D A (WDay z a1 m1) → va_S A s.heap H locs → ∀ (ls : Array Slot), lv_has ls 3 [(0, .ref (a1 0)), (1, .int p1), (2, .int x1)] → zl1 F2 n x1 = some rr → GQ p l e (headSpec wsX2_firstReady ({ frames := 1, cells := 0, slots := 0, locals := 22 } : Room)).room s m ([.ref (a1 0), .int p1] : List Value).toArray below meth c A D z (rr.map fun i => a1 (3 + i)) (WDay z a1 m1) H locs (F0 m 2 ls []) := by
    intro n
    induction n with
    | zero =>
      intro x1 H locs hP hD hS ls hl hf
      exact no_none hf
    | succ n ih4 =>
      intro x1 H locs hP hD hS ls hl hf
      have hf := zl1_s eF2 hf
      refine lv_iload_n hx hb dX2_firstReady_2 rfl (lv_at hl 2 rfl) ?_
      refine lv_aload_n hx hb dX2_firstReady_3 rfl (lv_at hl 0 rfl) ?_
      obtain ⟨r5, q6, hf⟩ := bd_use hf
      refine z_goI (va_runV (As := []) (rest := [.int x1]) ⟨hx, hb, hml, hown, hts⟩ (tX2_kettlesInUse l D z tt a1 m1  fu r5 q6 _) (cwV 0 hts gX2_firstReady_X2_kettlesInUse rfl rfl rfl (by decide +kernel) ⟨Nat.le_of_ble_eq_true rfl, Nat.le_of_ble_eq_true rfl⟩) (z_preV hK hP hD hS hA hT hN [0, 1, 2, 3, 4, 5, 6, 7, 8, 9, 10, 11, 12, 13, 14] rfl rfl (va_recv hK hP (ci := 2) (q0 := 0) rfl rfl)) rfl rfl hl.1 rfl (lv_room (Nat.le_of_ble_eq_true rfl)) dX2_firstReady_4 ⟨Nat.zero_le _, Nat.zero_le _⟩) hP hD hS hA [0, 1, 2, 3, 4, 5, 6, 7, 8, 9, 10, 11, 12, 13, 14] rfl rfl rfl (ws1 := (WDay z a1 m1)) rfl (fun H locs hP hD hS => ?_)
      refine lv_icmp_ge (tgt := 40) hx hb dX2_firstReady_7 (by decide) (fun c7 => ?_) (fun c7 => ?_)
      · have hf := if_t c7 hf
        refine lv_null hx hb dX2_firstReady_40 ?_
        cases hf
        exact ret_q hx hb hr (Or.inl ⟨_, rfl⟩) hlocks hK rfl hP hD hS dX2_firstReady_41
      · have hf := if_f c7 hf
        refine lv_aload_n hx hb dX2_firstReady_10 rfl (lv_at hl 0 rfl) ?_
        refine va_get (D := D) (ci := 2) (v := .ref (a1 14)) (C := RX2) (T := TX2) (N := 8) hx hb hts iX2 hown hK hP 0 rfl rfl 2 (by decide) (hts (.fieldLink RX2 32 "FilledForOne$Day" "kettles" "[LFilledForOne$Kettle;") (by decide +kernel)) (fun _ h9 => h9) rfl dX2_firstReady_11 ?_
        refine lv_iload_n hx hb dX2_firstReady_14 rfl (lv_at hl 2 rfl) ?_
        obtain ⟨h8, hf⟩ := ck_use hf
        refine z_ald hx hb hK hP 14 2 (C := "FilledForOne$Kettle") (g := (fun j => a1 (3 + j))) rfl rfl h8 dX2_firstReady_15 ?_
        refine lv_aload_n hx hb dX2_firstReady_16 rfl (lv_at hl 0 rfl) ?_
        refine va_get (D := D) (ci := 2) (v := .int (m1 0 6)) (C := RX2) (T := TX2) (N := 8) hx hb hts iX2 hown hK hP 0 rfl rfl 6 (by decide) (hts (.fieldLink RX2 53 "FilledForOne$Day" "minute" "I") (by decide +kernel)) (fun _ h9 => h9) rfl dX2_firstReady_17 ?_
        refine lv_iload_n hx hb dX2_firstReady_20 rfl (lv_at hl 1 rfl) ?_
        obtain ⟨r9, q10, hf⟩ := bd_use hf
        refine z_goI (va_runV (As := [.int (m1 0 6), .int p1]) (rest := []) ⟨hx, hb, hml, hown, hts⟩ (tX3_isReady l D z tt (a1 (3 + x1.toNatClampNeg)) (m1 (3 + x1.toNatClampNeg)) (m1 0 6) p1 fu r9 q10 _) (cwV 2 hts gX2_firstReady_X3_isReady rfl rfl rfl (by decide +kernel) ⟨Nat.le_of_ble_eq_true rfl, Nat.le_of_ble_eq_true rfl⟩) (z_preV hK hP hD hS hA hT hN [(3 + x1.toNatClampNeg)] (js1 (WDay_k z a1 m1 (vp_lt h8))) (nd1 _) (va_recv hK hP (ci := 3) (q0 := (3 + x1.toNatClampNeg)) rfl (WDay_k z a1 m1 (vp_lt h8)))) rfl rfl hl.1 rfl (lv_room (Nat.le_of_ble_eq_true rfl)) dX2_firstReady_21 ⟨Nat.zero_le _, Nat.zero_le _⟩) hP hD hS hA [(3 + x1.toNatClampNeg)] (js1 (WDay_k z a1 m1 (vp_lt h8))) (nd1 _) rfl (ws1 := (WDay z a1 m1)) (set_same (WDay_k z a1 m1 (vp_lt h8))) (fun H locs hP hD hS => ?_)
        refine lv_if_eq (tgt := 34) hx hb dX2_firstReady_24 (by decide) (fun c11 => ?_) (fun c11 => ?_)
        · have hf := if_t c11 hf
          obtain ⟨x12, ex12⟩ : ∃ y : Int32, y = x1 + 1 := ⟨_, rfl⟩
          have hf := lt_use ex12 hf
          refine lv_iinc (v := x12) (lv' := [(2, .int x12), (0, .ref (a1 0)), (1, .int p1)]) hx hb dX2_firstReady_34 hl (k := 2) rfl (by rw [ex12]; rfl) (by decide) rfl (fun ls hl => ?_)
          refine lv_goto (tgt := 2) hx hb dX2_firstReady_37 (by decide) ?_
          exact ih4 _ _ _ hP hD hS _ (lv_sub hl [1, 2, 0] rfl) hf
        · have hf := if_f c11 hf
          refine lv_aload_n hx hb dX2_firstReady_27 rfl (lv_at hl 0 rfl) ?_
          refine va_get (D := D) (ci := 2) (v := .ref (a1 14)) (C := RX2) (T := TX2) (N := 8) hx hb hts iX2 hown hK hP 0 rfl rfl 2 (by decide) (hts (.fieldLink RX2 32 "FilledForOne$Day" "kettles" "[LFilledForOne$Kettle;") (by decide +kernel)) (fun _ h9 => h9) rfl dX2_firstReady_28 ?_
          refine lv_iload_n hx hb dX2_firstReady_31 rfl (lv_at hl 2 rfl) ?_
          obtain ⟨h13, hf⟩ := ck_use hf
          refine z_ald hx hb hK hP 14 2 (C := "FilledForOne$Kettle") (g := (fun j => a1 (3 + j))) rfl rfl h13 dX2_firstReady_32 ?_
          cases hf
          exact ret_q hx hb hr (Or.inl ⟨_, rfl⟩) hlocks hK rfl hP hD hS dX2_firstReady_33
  exact L2_F2 fu _ _ _ hP hD hS _ (lv_sub hl [1, 2, 0] rfl) hf
def pX2_serve (fu : Nat) (m1 : Mem) (p1 : Int32) : Option (Int32 × Mem) :=
  ck p1 8 <|
  bd (pX2_firstReady fu m1 (m1 (5 + p1.toNatClampNeg) 3)) fun r2 =>
  oc r2 (
    some (0, m1)) fun i4 =>
  ckk i4 2 <|
    lt' (up2 m1 (3 + i4) 0 ((m1 (3 + i4) 0) - (m1 (5 + p1.toNatClampNeg) 3))) fun y7 =>
    lt' (up2 y7 (5 + p1.toNatClampNeg) 5 2) fun y8 =>
    lt' (up2 y8 (5 + p1.toNatClampNeg) 6 (y8 0 6)) fun y9 =>
    some (1, y9)
set_option maxHeartbeats 4000000 in
set_option maxRecDepth 100000 in
theorem tX2_serve (l : Launch) (D : va_G) (z tt : Nat → Nat) (a1 : Nat → Nat) (m1 : Mem) (p1 : Int32) (fu : Nat) (rr : Int32) (m1' : Mem) (hf : pX2_serve fu m1 p1 = some (rr, m1')) : MetI l yX2_serve wsX2_serve ({ frames := 2, cells := 0, slots := 0, locals := 44 } : Room) D z tt ([.ref (a1 0), .int p1] : List Value) (WDay z a1 m1) rr (WDay z a1 m1') := by
  intro sz
  refine Met.ofW (cc := cX2_serve) (maxL := 4) (ret := (some .boolean)) (by decide) rfl ?_
  intro p e s m args below meth c s₁ B hml hv
  obtain ⟨rfl, hsz, hP, hK, hD0, hT, hN⟩ := hv
  have hx := B.exec
  have hb := B.bytes
  have hr := B.returns
  have hts := atoms_spec (ws := wsX2_serve) B.pre
  have hown : s.vm.findClass RX2 = some m.cls := findClass_of_methodNamed B.named
  have hlocks := B.notSynchronized
  subst hsz
  have hD := hD0.self (sz := s.heap.size)
  generalize hAe : va_A (WDay z a1 m1) s.heap.size = A at hD hT ⊢
  have hA : ∀ q : Nat, s.heap.size ≤ q → A q := fun q h => by rw [← hAe]; exact Or.inr h
  have hS : va_S A s.heap s.heap [] := va_S.rf
  have hl := lv_entry ([.ref (a1 0), .int p1] : List Value) (n := 4) (Nat.le_of_ble_eq_true rfl)
  rw [lg_entry_eq]
  generalize (lg_sl ([.ref (a1 0), .int p1] : List Value) ++ List.replicate (4 - (lg_sl ([.ref (a1 0), .int p1] : List Value)).length) Slot.unset).toArray = ls at hl ⊢
  have hl : lv_has ls 4 [(0, .ref (a1 0)), (1, .int p1)] := hl
  have iX1 : ∀ w ∈ wsX10, w ∈ wsX2_serve := by decide +kernel
  have iX2 : ∀ w ∈ wsX20, w ∈ wsX2_serve := by decide +kernel
  have iX3 : ∀ w ∈ wsX30, w ∈ wsX2_serve := by decide +kernel
  unfold pX2_serve at hf
  refine lv_aload_n hx hb dX2_serve_0 rfl (lv_at hl 0 rfl) ?_
  refine va_get (D := D) (ci := 2) (v := .ref (a1 13)) (C := RX2) (T := TX2) (N := 8) hx hb hts iX2 hown hK hP 0 rfl rfl 1 (by decide) (hts (.fieldLink RX2 25 "FilledForOne$Day" "comers" "[LFilledForOne$Comer;") (by decide +kernel)) (fun _ h9 => h9) rfl dX2_serve_1 ?_
  refine lv_iload_n hx hb dX2_serve_4 rfl (lv_at hl 1 rfl) ?_
  obtain ⟨h1, hf⟩ := ck_use hf
  refine z_ald hx hb hK hP 13 1 (C := "FilledForOne$Comer") (g := (fun j => a1 (5 + j))) rfl rfl h1 dX2_serve_5 ?_
  refine lv_astore_n (lv' := [(2, .ref (a1 (5 + p1.toNatClampNeg))), (0, .ref (a1 0)), (1, .int p1)]) hx hb dX2_serve_6 rfl hl (by decide) rfl (fun ls hl => ?_)
  refine lv_aload_n hx hb dX2_serve_7 rfl (lv_at hl 1 rfl) ?_
  refine lv_aload_n hx hb dX2_serve_8 rfl (lv_at hl 0 rfl) ?_
  refine va_get (D := D) (ci := 1) (v := .int (m1 (5 + p1.toNatClampNeg) 3)) (C := RX1) (T := TX1) (N := 7) hx hb hts iX1 hown hK hP (5 + p1.toNatClampNeg) (WDay_c z a1 m1 (vp_lt h1)) rfl 3 (by decide) (hts (.fieldLink RX2 84 "FilledForOne$Comer" "wants" "I") (by decide +kernel)) (fun _ h9 => h9) rfl dX2_serve_9 ?_
  obtain ⟨r2, q3, hf⟩ := bd_use hf
  refine z_goQ (va_runV (As := [.int (m1 (5 + p1.toNatClampNeg) 3)]) (rest := []) ⟨hx, hb, hml, hown, hts⟩ (tX2_firstReady l D z tt a1 m1 (m1 (5 + p1.toNatClampNeg) 3) fu r2 q3 _) (cwV 1 hts gX2_serve_X2_firstReady rfl rfl rfl (by decide +kernel) ⟨Nat.le_of_ble_eq_true rfl, Nat.le_of_ble_eq_true rfl⟩) (z_preV hK hP hD hS hA hT hN [0, 1, 2, 3, 4, 5, 6, 7, 8, 9, 10, 11, 12, 13, 14] rfl rfl (va_recv hK hP (ci := 2) (q0 := 0) rfl rfl)) rfl rfl hl.1 rfl (lv_room (Nat.le_of_ble_eq_true rfl)) dX2_serve_12 ⟨Nat.zero_le _, Nat.zero_le _⟩) hP hD hS hA [0, 1, 2, 3, 4, 5, 6, 7, 8, 9, 10, 11, 12, 13, 14] rfl rfl rfl (ws1 := (WDay z a1 m1)) rfl (fun H locs hP hD hS => ?_)
  rcases oc_use hf with ⟨e5, hf⟩ | ⟨i4, e5, hf⟩
  · subst e5
    refine lv_astore_nN (lv' := [(3, .null), (2, .ref (a1 (5 + p1.toNatClampNeg))), (0, .ref (a1 0)), (1, .int p1)]) hx hb dX2_serve_15 rfl hl (by decide) rfl (fun ls hl => ?_)
    refine lv_aload_nN hx hb dX2_serve_16 rfl (lv_at hl 0 rfl) ?_
    refine lv_ifnullN (tgt := 46) hx hb dX2_serve_17 (by decide) ?_
    refine lv_aload_nN hx hb dX2_serve_46 rfl (lv_at hl 0 rfl) ?_
    refine lv_ifnullN (tgt := 54) hx hb dX2_serve_47 (by decide) ?_
    refine lv_iconst (v := 0) hx hb dX2_serve_54 (by decide) ?_
    cases hf
    exact ret_z hx hb hr hlocks hK hP hD hS (by decide) dX2_serve_55
  · subst e5
    obtain ⟨h6, hf⟩ := ckk_use hf
    refine lv_astore_n (lv' := [(3, .ref (a1 (3 + i4))), (2, .ref (a1 (5 + p1.toNatClampNeg))), (0, .ref (a1 0)), (1, .int p1)]) hx hb dX2_serve_15 rfl hl (by decide) rfl (fun ls hl => ?_)
    refine lv_aload_n hx hb dX2_serve_16 rfl (lv_at hl 0 rfl) ?_
    refine lv_ifnull hx hb dX2_serve_17 ?_
    refine lv_aload_n hx hb dX2_serve_20 rfl (lv_at hl 0 rfl) ?_
    refine lv_dup hx hb dX2_serve_21 rfl ?_
    refine va_get (D := D) (ci := 3) (v := .int (m1 (3 + i4) 0)) (C := RX3) (T := TX3) (N := 5) hx hb hts iX3 hown hK hP (3 + i4) (WDay_k z a1 m1 h6) rfl 0 (by decide) (hts (.fieldLink RX2 134 "FilledForOne$Kettle" "level" "I") (by decide +kernel)) (fun _ h9 => h9) rfl dX2_serve_22 ?_
    refine lv_aload_n hx hb dX2_serve_25 rfl (lv_at hl 1 rfl) ?_
    refine va_get (D := D) (ci := 1) (v := .int (m1 (5 + p1.toNatClampNeg) 3)) (C := RX1) (T := TX1) (N := 7) hx hb hts iX1 hown hK hP (5 + p1.toNatClampNeg) (WDay_c z a1 m1 (vp_lt h1)) rfl 3 (by decide) (hts (.fieldLink RX2 84 "FilledForOne$Comer" "wants" "I") (by decide +kernel)) (fun _ h9 => h9) rfl dX2_serve_26 ?_
    refine lv_isub hx hb dX2_serve_29 ?_
    refine z_put (ci := 3) (v := .int ((m1 (3 + i4) 0) - (m1 (5 + p1.toNatClampNeg) 3))) (ty := .int) (C := RX3) (T := TX3) (N := 5) hx hb hts iX3 tyX3 tyX3_ok nmX3 hown hK hP hD hS (3 + i4) (WDay_k z a1 m1 h6) rfl 0 (by decide) (hts (.fieldLink RX2 134 "FilledForOne$Kettle" "level" "I") (by decide +kernel)) (fun _ h9 => h9) rfl (by decide +kernel) rfl rfl (Nat.le_of_ble_eq_true rfl) dX2_serve_30 (fun (w9 : Mem) => (WDay z a1 w9)) (up2 m1 (3 + i4) 0 ((m1 (3 + i4) 0) - (m1 (5 + p1.toNatClampNeg) 3))) (WDay_sk z a1 m1 (upd (m1 (3 + i4)) 0 ((m1 (3 + i4) 0) - (m1 (5 + p1.toNatClampNeg) 3))) h6) (fun y7 ey7 H locs hP hD hS => ?_)
    have hf := lt_use ey7 hf
    refine lv_aload_n hx hb dX2_serve_33 rfl (lv_at hl 1 rfl) ?_
    refine lv_iconst (v := 2) hx hb dX2_serve_34 (by decide) ?_
    refine z_put (ci := 1) (v := .int 2) (ty := .int) (C := RX1) (T := TX1) (N := 7) hx hb hts iX1 tyX1 tyX1_ok nmX1 hown hK hP hD hS (5 + p1.toNatClampNeg) (WDay_c z a1 y7 (vp_lt h1)) rfl 5 (by decide) (hts (.fieldLink RX2 63 "FilledForOne$Comer" "state" "I") (by decide +kernel)) (fun _ h9 => h9) rfl (by decide +kernel) rfl rfl (Nat.le_of_ble_eq_true rfl) dX2_serve_35 (fun (w9 : Mem) => (WDay z a1 w9)) (up2 y7 (5 + p1.toNatClampNeg) 5 2) (WDay_sc z a1 y7 (upd (y7 (5 + p1.toNatClampNeg)) 5 2) (vp_lt h1)) (fun y8 ey8 H locs hP hD hS => ?_)
    have hf := lt_use ey8 hf
    refine lv_aload_n hx hb dX2_serve_38 rfl (lv_at hl 1 rfl) ?_
    refine lv_aload_n hx hb dX2_serve_39 rfl (lv_at hl 2 rfl) ?_
    refine va_get (D := D) (ci := 2) (v := .int (y8 0 6)) (C := RX2) (T := TX2) (N := 8) hx hb hts iX2 hown hK hP 0 rfl rfl 6 (by decide) (hts (.fieldLink RX2 53 "FilledForOne$Day" "minute" "I") (by decide +kernel)) (fun _ h9 => h9) rfl dX2_serve_40 ?_
    refine z_put (ci := 1) (v := .int (y8 0 6)) (ty := .int) (C := RX1) (T := TX1) (N := 7) hx hb hts iX1 tyX1 tyX1_ok nmX1 hown hK hP hD hS (5 + p1.toNatClampNeg) (WDay_c z a1 y8 (vp_lt h1)) rfl 6 (by decide) (hts (.fieldLink RX2 137 "FilledForOne$Comer" "servedAt" "I") (by decide +kernel)) (fun _ h9 => h9) rfl (by decide +kernel) rfl rfl (Nat.le_of_ble_eq_true rfl) dX2_serve_43 (fun (w9 : Mem) => (WDay z a1 w9)) (up2 y8 (5 + p1.toNatClampNeg) 6 (y8 0 6)) (WDay_sc z a1 y8 (upd (y8 (5 + p1.toNatClampNeg)) 6 (y8 0 6)) (vp_lt h1)) (fun y9 ey9 H locs hP hD hS => ?_)
    have hf := lt_use ey9 hf
    refine lv_aload_n hx hb dX2_serve_46 rfl (lv_at hl 0 rfl) ?_
    refine lv_ifnull hx hb dX2_serve_47 ?_
    refine lv_iconst (v := 1) hx hb dX2_serve_50 (by decide) ?_
    refine lv_goto (tgt := 55) hx hb dX2_serve_51 (by decide) ?_
    cases hf
    exact ret_z hx hb hr hlocks hK hP hD hS (by decide) dX2_serve_55
def pX2_wantsInLine (fu : Nat) (m1 : Mem) : Option Int32 :=
  zl2 (fun g4 (x1 : Int32) (x2 : Int32) =>
    if (m1 0 4) ≤ x2 then
      some x1
    else
      ck x2 8 <|
      if (m1 (5 + x2.toNatClampNeg) 5) = 1 then
        ck x2 8 <|
        lt' ((x1 + (m1 (5 + x2.toNatClampNeg) 3)) : Int32) fun x11 =>
        lt' (x2 + 1) fun x12 =>
        g4 x11 x12
      else
        lt' (x2 + 1) fun x9 =>
        g4 x1 x9) fu 0 0
set_option maxHeartbeats 4000000 in
set_option maxRecDepth 100000 in
theorem tX2_wantsInLine (l : Launch) (D : va_G) (z tt : Nat → Nat) (a1 : Nat → Nat) (m1 : Mem)  (fu : Nat) (rr : Int32) (hf : pX2_wantsInLine fu m1 = some rr) : MetI l yX2_wantsInLine wsX2_wantsInLine ({ frames := 0, cells := 0, slots := 0, locals := 0 } : Room) D z tt ([.ref (a1 0)] : List Value) (WDay z a1 m1) rr (WDay z a1 m1) := by
  intro sz
  refine Met.ofW (cc := cX2_wantsInLine) (maxL := 3) (ret := (some .int)) (by decide) rfl ?_
  intro p e s m args below meth c s₁ B hml hv
  obtain ⟨rfl, hsz, hP, hK, hD0, hT, hN⟩ := hv
  have hx := B.exec
  have hb := B.bytes
  have hr := B.returns
  have hts := atoms_spec (ws := wsX2_wantsInLine) B.pre
  have hown : s.vm.findClass RX2 = some m.cls := findClass_of_methodNamed B.named
  have hlocks := B.notSynchronized
  subst hsz
  have hD := hD0.self (sz := s.heap.size)
  generalize hAe : va_A (WDay z a1 m1) s.heap.size = A at hD hT ⊢
  have hA : ∀ q : Nat, s.heap.size ≤ q → A q := fun q h => by rw [← hAe]; exact Or.inr h
  have hS : va_S A s.heap s.heap [] := va_S.rf
  have hl := lv_entry ([.ref (a1 0)] : List Value) (n := 3) (Nat.le_of_ble_eq_true rfl)
  rw [lg_entry_eq]
  generalize (lg_sl ([.ref (a1 0)] : List Value) ++ List.replicate (3 - (lg_sl ([.ref (a1 0)] : List Value)).length) Slot.unset).toArray = ls at hl ⊢
  have hl : lv_has ls 3 [(0, .ref (a1 0))] := hl
  have iX1 : ∀ w ∈ wsX10, w ∈ wsX2_wantsInLine := by decide +kernel
  have iX2 : ∀ w ∈ wsX20, w ∈ wsX2_wantsInLine := by decide +kernel
  unfold pX2_wantsInLine at hf
  refine lv_iconst (v := 0) hx hb dX2_wantsInLine_0 (by decide) ?_
  refine lv_istore_n (lv' := [(1, .int 0), (0, .ref (a1 0))]) hx hb dX2_wantsInLine_1 rfl hl (by decide) rfl (fun ls hl => ?_)
  refine lv_iconst (v := 0) hx hb dX2_wantsInLine_2 (by decide) ?_
  refine lv_istore_n (lv' := [(2, .int 0), (1, .int 0), (0, .ref (a1 0))]) hx hb dX2_wantsInLine_3 rfl hl (by decide) rfl (fun ls hl => ?_)
  obtain ⟨F3, eF3, hf⟩ := zl2_use hf
  have L4_F3 : ∀ (n : Nat) (x1 : Int32) (x2 : Int32) (H : Heap) (locs : List Loc), va_P D vwCl (WDay z a1 m1) H → va_D A (WDay z a1 m1) → va_S A s.heap H locs → ∀ (ls : Array Slot), lv_has ls 3 [(0, .ref (a1 0)), (1, .int x1), (2, .int x2)] → zl2 F3 n x1 x2 = some rr → GI p l e (headSpec wsX2_wantsInLine ({ frames := 0, cells := 0, slots := 0, locals := 0 } : Room)).room s m ([.ref (a1 0)] : List Value).toArray below meth c A D z rr (WDay z a1 m1) H locs (F0 m 4 ls []) := by
    intro n
    induction n with
    | zero =>
      intro x1 x2 H locs hP hD hS ls hl hf
      exact no_none hf
    | succ n ih5 =>
      intro x1 x2 H locs hP hD hS ls hl hf
      have hf := zl2_s eF3 hf
      refine lv_iload_n hx hb dX2_wantsInLine_4 rfl (lv_at hl 2 rfl) ?_
      refine lv_aload_n hx hb dX2_wantsInLine_5 rfl (lv_at hl 0 rfl) ?_
      refine va_get (D := D) (ci := 2) (v := .int (m1 0 4)) (C := RX2) (T := TX2) (N := 8) hx hb hts iX2 hown hK hP 0 rfl rfl 4 (by decide) (hts (.fieldLink RX2 46 "FilledForOne$Day" "known" "I") (by decide +kernel)) (fun _ h9 => h9) rfl dX2_wantsInLine_6 ?_
      refine lv_icmp_ge (tgt := 43) hx hb dX2_wantsInLine_9 (by decide) (fun c6 => ?_) (fun c6 => ?_)
      · have hf := if_t c6 hf
        refine lv_iload_n hx hb dX2_wantsInLine_43 rfl (lv_at hl 1 rfl) ?_
        cases hf
        exact ret_i hx hb hr hlocks hK hP hD hS dX2_wantsInLine_44
      · have hf := if_f c6 hf
        refine lv_aload_n hx hb dX2_wantsInLine_12 rfl (lv_at hl 0 rfl) ?_
        refine va_get (D := D) (ci := 2) (v := .ref (a1 13)) (C := RX2) (T := TX2) (N := 8) hx hb hts iX2 hown hK hP 0 rfl rfl 1 (by decide) (hts (.fieldLink RX2 25 "FilledForOne$Day" "comers" "[LFilledForOne$Comer;") (by decide +kernel)) (fun _ h9 => h9) rfl dX2_wantsInLine_13 ?_
        refine lv_iload_n hx hb dX2_wantsInLine_16 rfl (lv_at hl 2 rfl) ?_
        obtain ⟨h7, hf⟩ := ck_use hf
        refine z_ald hx hb hK hP 13 1 (C := "FilledForOne$Comer") (g := (fun j => a1 (5 + j))) rfl rfl h7 dX2_wantsInLine_17 ?_
        refine va_get (D := D) (ci := 1) (v := .int (m1 (5 + x2.toNatClampNeg) 5)) (C := RX1) (T := TX1) (N := 7) hx hb hts iX1 hown hK hP (5 + x2.toNatClampNeg) (WDay_c z a1 m1 (vp_lt h7)) rfl 5 (by decide) (hts (.fieldLink RX2 63 "FilledForOne$Comer" "state" "I") (by decide +kernel)) (fun _ h9 => h9) rfl dX2_wantsInLine_18 ?_
        refine lv_iconst (v := 1) hx hb dX2_wantsInLine_21 (by decide) ?_
        refine lv_icmp_ne (tgt := 37) hx hb dX2_wantsInLine_22 (by decide) (fun c8 => ?_) (fun c8 => ?_)
        · have hf := if_f c8 hf
          obtain ⟨x9, ex9⟩ : ∃ y : Int32, y = x2 + 1 := ⟨_, rfl⟩
          have hf := lt_use ex9 hf
          refine lv_iinc (v := x9) (lv' := [(2, .int x9), (0, .ref (a1 0)), (1, .int x1)]) hx hb dX2_wantsInLine_37 hl (k := 2) rfl (by rw [ex9]; rfl) (by decide) rfl (fun ls hl => ?_)
          refine lv_goto (tgt := 4) hx hb dX2_wantsInLine_40 (by decide) ?_
          exact ih5 _ _ _ _ hP hD hS _ (lv_sub hl [1, 2, 0] rfl) hf
        · have hf := if_t c8 hf
          refine lv_iload_n hx hb dX2_wantsInLine_25 rfl (lv_at hl 1 rfl) ?_
          refine lv_aload_n hx hb dX2_wantsInLine_26 rfl (lv_at hl 0 rfl) ?_
          refine va_get (D := D) (ci := 2) (v := .ref (a1 13)) (C := RX2) (T := TX2) (N := 8) hx hb hts iX2 hown hK hP 0 rfl rfl 1 (by decide) (hts (.fieldLink RX2 25 "FilledForOne$Day" "comers" "[LFilledForOne$Comer;") (by decide +kernel)) (fun _ h9 => h9) rfl dX2_wantsInLine_27 ?_
          refine lv_iload_n hx hb dX2_wantsInLine_30 rfl (lv_at hl 2 rfl) ?_
          obtain ⟨h10, hf⟩ := ck_use hf
          refine z_ald hx hb hK hP 13 1 (C := "FilledForOne$Comer") (g := (fun j => a1 (5 + j))) rfl rfl h10 dX2_wantsInLine_31 ?_
          refine va_get (D := D) (ci := 1) (v := .int (m1 (5 + x2.toNatClampNeg) 3)) (C := RX1) (T := TX1) (N := 7) hx hb hts iX1 hown hK hP (5 + x2.toNatClampNeg) (WDay_c z a1 m1 (vp_lt h10)) rfl 3 (by decide) (hts (.fieldLink RX2 84 "FilledForOne$Comer" "wants" "I") (by decide +kernel)) (fun _ h9 => h9) rfl dX2_wantsInLine_32 ?_
          refine lv_iadd hx hb dX2_wantsInLine_35 ?_
          refine lv_topi (fun x11 ex11 => ?_)
          have hf := lt_use ex11 hf
          refine lv_istore_n (lv' := [(1, .int x11), (0, .ref (a1 0)), (2, .int x2)]) hx hb dX2_wantsInLine_36 rfl hl (by decide) rfl (fun ls hl => ?_)
          obtain ⟨x12, ex12⟩ : ∃ y : Int32, y = x2 + 1 := ⟨_, rfl⟩
          have hf := lt_use ex12 hf
          refine lv_iinc (v := x12) (lv' := [(2, .int x12), (1, .int x11), (0, .ref (a1 0))]) hx hb dX2_wantsInLine_37 hl (k := 2) rfl (by rw [ex12]; rfl) (by decide) rfl (fun ls hl => ?_)
          refine lv_goto (tgt := 4) hx hb dX2_wantsInLine_40 (by decide) ?_
          exact ih5 _ _ _ _ hP hD hS _ (lv_sub hl [2, 1, 0] rfl) hf
  exact L4_F3 fu _ _ _ _ hP hD hS _ (lv_sub hl [2, 1, 0] rfl) hf
end

section
-- ===== PART A: goes FIRST, ahead of the names: the tables' words, and 'selects' of the private methods out of them =====
/-- a private method of a class that the tables say can be made, by its rows of tables_1 -/
def lw_okq (q : MethodName × Nat) : Prop := (q.1.cls ≠ "java/lang/invoke/MethodHandle" ∧ q.1.cls ≠ "java/lang/invoke/VarHandle") ∧ Cond.instantiable q.1.cls q.2 ∈ tables_1 ∧ Cond.privateMethod q.1 ∈ tables_1 ∧ Cond.instanceMethod q.1 ∈ tables_1
theorem lw_p0 : lw_okq (⟨"DesiredStateKeeper$TextReader", "readHead", "()V"⟩, 14) := ⟨⟨by decide +kernel, by decide +kernel⟩, List.mem_of_getElem? (i := 30) (by decide +kernel), List.mem_of_getElem? (i := 296) (by decide +kernel), List.mem_of_getElem? (i := 297) (by decide +kernel)⟩
theorem lw_p1 : lw_okq (⟨"DesiredStateKeeper$TextReader", "readLetter", "(C)V"⟩, 14) := ⟨⟨by decide +kernel, by decide +kernel⟩, List.mem_of_getElem? (i := 30) (by decide +kernel), List.mem_of_getElem? (i := 300) (by decide +kernel), List.mem_of_getElem? (i := 301) (by decide +kernel)⟩
theorem lw_p2 : lw_okq (⟨"DesiredStateKeeper$TextReader", "readDigit", "(II)I"⟩, 14) := ⟨⟨by decide +kernel, by decide +kernel⟩, List.mem_of_getElem? (i := 30) (by decide +kernel), List.mem_of_getElem? (i := 304) (by decide +kernel), List.mem_of_getElem? (i := 305) (by decide +kernel)⟩
theorem lw_p3 : lw_okq (⟨"DesiredStateKeeper$TextReader", "readItems", "()V"⟩, 14) := ⟨⟨by decide +kernel, by decide +kernel⟩, List.mem_of_getElem? (i := 30) (by decide +kernel), List.mem_of_getElem? (i := 308) (by decide +kernel), List.mem_of_getElem? (i := 309) (by decide +kernel)⟩
theorem lw_p4 : lw_okq (⟨"DesiredStateKeeper$TextReader", "readItem", "(C)V"⟩, 14) := ⟨⟨by decide +kernel, by decide +kernel⟩, List.mem_of_getElem? (i := 30) (by decide +kernel), List.mem_of_getElem? (i := 315) (by decide +kernel), List.mem_of_getElem? (i := 316) (by decide +kernel)⟩
theorem lw_p5 : lw_okq (⟨"DesiredStateKeeper$TextReader", "readRule", "(I)V"⟩, 14) := ⟨⟨by decide +kernel, by decide +kernel⟩, List.mem_of_getElem? (i := 30) (by decide +kernel), List.mem_of_getElem? (i := 319) (by decide +kernel), List.mem_of_getElem? (i := 320) (by decide +kernel)⟩
theorem lw_p6 : lw_okq (⟨"DesiredStateKeeper$TextReader", "readDigitBut", "(II)I"⟩, 14) := ⟨⟨by decide +kernel, by decide +kernel⟩, List.mem_of_getElem? (i := 30) (by decide +kernel), List.mem_of_getElem? (i := 323) (by decide +kernel), List.mem_of_getElem? (i := 324) (by decide +kernel)⟩
theorem lw_p7 : lw_okq (⟨"DesiredStateKeeper$TextReader", "readVersion", "([I)V"⟩, 14) := ⟨⟨by decide +kernel, by decide +kernel⟩, List.mem_of_getElem? (i := 30) (by decide +kernel), List.mem_of_getElem? (i := 327) (by decide +kernel), List.mem_of_getElem? (i := 328) (by decide +kernel)⟩
theorem lw_p8 : lw_okq (⟨"DesiredStateKeeper$State", "isDrifted", "(II)Z"⟩, 10) := ⟨⟨by decide +kernel, by decide +kernel⟩, List.mem_of_getElem? (i := 177) (by decide +kernel), List.mem_of_getElem? (i := 361) (by decide +kernel), List.mem_of_getElem? (i := 362) (by decide +kernel)⟩
theorem lw_p9 : lw_okq (⟨"DesiredStateKeeper$State", "missingTo", "(II)I"⟩, 10) := ⟨⟨by decide +kernel, by decide +kernel⟩, List.mem_of_getElem? (i := 177) (by decide +kernel), List.mem_of_getElem? (i := 372) (by decide +kernel), List.mem_of_getElem? (i := 373) (by decide +kernel)⟩
theorem lw_p10 : lw_okq (⟨"DesiredStateKeeper$State", "isDriftedBelow", "(II)Z"⟩, 10) := ⟨⟨by decide +kernel, by decide +kernel⟩, List.mem_of_getElem? (i := 177) (by decide +kernel), List.mem_of_getElem? (i := 388) (by decide +kernel), List.mem_of_getElem? (i := 389) (by decide +kernel)⟩
theorem lw_p11 : lw_okq (⟨"DesiredStateKeeper$State", "brokenByWish", "(II)I"⟩, 10) := ⟨⟨by decide +kernel, by decide +kernel⟩, List.mem_of_getElem? (i := 177) (by decide +kernel), List.mem_of_getElem? (i := 392) (by decide +kernel), List.mem_of_getElem? (i := 393) (by decide +kernel)⟩
theorem lw_p12 : lw_okq (⟨"DesiredStateKeeper$State", "attempt", "(II)V"⟩, 10) := ⟨⟨by decide +kernel, by decide +kernel⟩, List.mem_of_getElem? (i := 177) (by decide +kernel), List.mem_of_getElem? (i := 401) (by decide +kernel), List.mem_of_getElem? (i := 402) (by decide +kernel)⟩
theorem lw_p13 : lw_okq (⟨"java/lang/Throwable", "fillInStackTrace", "(I)Ljava/lang/Throwable;"⟩, 6) := ⟨⟨by decide +kernel, by decide +kernel⟩, List.mem_of_getElem? (i := 455) (by decide +kernel), List.mem_of_getElem? (i := 453) (by decide +kernel), List.mem_of_getElem? (i := 454) (by decide +kernel)⟩
theorem lw_p14 : lw_okq (⟨"DesiredStateKeeper$RuleBook", "isBroken", "(II)Z"⟩, 4) := ⟨⟨by decide +kernel, by decide +kernel⟩, List.mem_of_getElem? (i := 97) (by decide +kernel), List.mem_of_getElem? (i := 525) (by decide +kernel), List.mem_of_getElem? (i := 526) (by decide +kernel)⟩
theorem lw_p15 : lw_okq (⟨"DesiredStateKeeper", "requireNode", "(I)V"⟩, 10) := ⟨⟨by decide +kernel, by decide +kernel⟩, List.mem_of_getElem? (i := 22) (by decide +kernel), List.mem_of_getElem? (i := 564) (by decide +kernel), List.mem_of_getElem? (i := 565) (by decide +kernel)⟩
def lw_privs_1 : List (MethodName × Nat) := [(⟨"DesiredStateKeeper$TextReader", "readHead", "()V"⟩, 14), (⟨"DesiredStateKeeper$TextReader", "readLetter", "(C)V"⟩, 14), (⟨"DesiredStateKeeper$TextReader", "readDigit", "(II)I"⟩, 14), (⟨"DesiredStateKeeper$TextReader", "readItems", "()V"⟩, 14), (⟨"DesiredStateKeeper$TextReader", "readItem", "(C)V"⟩, 14), (⟨"DesiredStateKeeper$TextReader", "readRule", "(I)V"⟩, 14), (⟨"DesiredStateKeeper$TextReader", "readDigitBut", "(II)I"⟩, 14), (⟨"DesiredStateKeeper$TextReader", "readVersion", "([I)V"⟩, 14), (⟨"DesiredStateKeeper$State", "isDrifted", "(II)Z"⟩, 10), (⟨"DesiredStateKeeper$State", "missingTo", "(II)I"⟩, 10), (⟨"DesiredStateKeeper$State", "isDriftedBelow", "(II)Z"⟩, 10), (⟨"DesiredStateKeeper$State", "brokenByWish", "(II)I"⟩, 10), (⟨"DesiredStateKeeper$State", "attempt", "(II)V"⟩, 10), (⟨"java/lang/Throwable", "fillInStackTrace", "(I)Ljava/lang/Throwable;"⟩, 6), (⟨"DesiredStateKeeper$RuleBook", "isBroken", "(II)Z"⟩, 4), (⟨"DesiredStateKeeper", "requireNode", "(I)V"⟩, 10)]
theorem lw_r1 : ∀ q ∈ lw_privs_1, lw_okq q := List.forall_mem_cons.mpr ⟨lw_p0, List.forall_mem_cons.mpr ⟨lw_p1, List.forall_mem_cons.mpr ⟨lw_p2, List.forall_mem_cons.mpr ⟨lw_p3, List.forall_mem_cons.mpr ⟨lw_p4, List.forall_mem_cons.mpr ⟨lw_p5, List.forall_mem_cons.mpr ⟨lw_p6, List.forall_mem_cons.mpr ⟨lw_p7, List.forall_mem_cons.mpr ⟨lw_p8, List.forall_mem_cons.mpr ⟨lw_p9, List.forall_mem_cons.mpr ⟨lw_p10, List.forall_mem_cons.mpr ⟨lw_p11, List.forall_mem_cons.mpr ⟨lw_p12, List.forall_mem_cons.mpr ⟨lw_p13, List.forall_mem_cons.mpr ⟨lw_p14, List.forall_mem_cons.mpr ⟨lw_p15, fun _ h => absurd h List.not_mem_nil⟩⟩⟩⟩⟩⟩⟩⟩⟩⟩⟩⟩⟩⟩⟩⟩
theorem lw_p16 : lw_okq (⟨"DesiredStateKeeper$State", "driftedOn", "(I)I"⟩, 10) := ⟨⟨by decide +kernel, by decide +kernel⟩, List.mem_of_getElem? (i := 177) (by decide +kernel), List.mem_of_getElem? (i := 588) (by decide +kernel), List.mem_of_getElem? (i := 589) (by decide +kernel)⟩
theorem lw_p17 : lw_okq (⟨"DesiredStateKeeper$State", "digestOf", "(I)I"⟩, 10) := ⟨⟨by decide +kernel, by decide +kernel⟩, List.mem_of_getElem? (i := 177) (by decide +kernel), List.mem_of_getElem? (i := 596) (by decide +kernel), List.mem_of_getElem? (i := 597) (by decide +kernel)⟩
theorem lw_p18 : lw_okq (⟨"DesiredStateKeeper", "requireComponent", "(I)V"⟩, 10) := ⟨⟨by decide +kernel, by decide +kernel⟩, List.mem_of_getElem? (i := 22) (by decide +kernel), List.mem_of_getElem? (i := 607) (by decide +kernel), List.mem_of_getElem? (i := 608) (by decide +kernel)⟩
theorem lw_p19 : lw_okq (⟨"DesiredStateKeeper", "requireRule", "(I)V"⟩, 10) := ⟨⟨by decide +kernel, by decide +kernel⟩, List.mem_of_getElem? (i := 22) (by decide +kernel), List.mem_of_getElem? (i := 620) (by decide +kernel), List.mem_of_getElem? (i := 621) (by decide +kernel)⟩
theorem lw_p20 : lw_okq (⟨"DesiredStateKeeper$State", "isAwaited", "(II)Z"⟩, 10) := ⟨⟨by decide +kernel, by decide +kernel⟩, List.mem_of_getElem? (i := 177) (by decide +kernel), List.mem_of_getElem? (i := 780) (by decide +kernel), List.mem_of_getElem? (i := 781) (by decide +kernel)⟩
theorem lw_p21 : lw_okq (⟨"DesiredStateKeeper$Ways", "aimAt", "(I)V"⟩, 6) := ⟨⟨by decide +kernel, by decide +kernel⟩, List.mem_of_getElem? (i := 152) (by decide +kernel), List.mem_of_getElem? (i := 802) (by decide +kernel), List.mem_of_getElem? (i := 803) (by decide +kernel)⟩
theorem lw_p22 : lw_okq (⟨"DesiredStateKeeper$Ways", "enqueue", "(II)V"⟩, 6) := ⟨⟨by decide +kernel, by decide +kernel⟩, List.mem_of_getElem? (i := 152) (by decide +kernel), List.mem_of_getElem? (i := 807) (by decide +kernel), List.mem_of_getElem? (i := 808) (by decide +kernel)⟩
theorem lw_p23 : lw_okq (⟨"DesiredStateKeeper$Ways", "distanceOf", "(I)I"⟩, 6) := ⟨⟨by decide +kernel, by decide +kernel⟩, List.mem_of_getElem? (i := 152) (by decide +kernel), List.mem_of_getElem? (i := 811) (by decide +kernel), List.mem_of_getElem? (i := 812) (by decide +kernel)⟩
theorem lw_p24 : lw_okq (⟨"DesiredStateKeeper$Ways", "reachFrom", "(I)V"⟩, 6) := ⟨⟨by decide +kernel, by decide +kernel⟩, List.mem_of_getElem? (i := 152) (by decide +kernel), List.mem_of_getElem? (i := 815) (by decide +kernel), List.mem_of_getElem? (i := 816) (by decide +kernel)⟩
theorem lw_p25 : lw_okq (⟨"DesiredStateKeeper$Ways", "bestChange", "(I)I"⟩, 6) := ⟨⟨by decide +kernel, by decide +kernel⟩, List.mem_of_getElem? (i := 152) (by decide +kernel), List.mem_of_getElem? (i := 833) (by decide +kernel), List.mem_of_getElem? (i := 834) (by decide +kernel)⟩
theorem lw_p26 : lw_okq (⟨"DesiredStateKeeper$RuleBook", "raisedByNeeds", "(I)I"⟩, 4) := ⟨⟨by decide +kernel, by decide +kernel⟩, List.mem_of_getElem? (i := 97) (by decide +kernel), List.mem_of_getElem? (i := 852) (by decide +kernel), List.mem_of_getElem? (i := 853) (by decide +kernel)⟩
theorem lw_p27 : lw_okq (⟨"DesiredStateKeeper$State", "isFarther", "(II)Z"⟩, 10) := ⟨⟨by decide +kernel, by decide +kernel⟩, List.mem_of_getElem? (i := 177) (by decide +kernel), List.mem_of_getElem? (i := 891) (by decide +kernel), List.mem_of_getElem? (i := 892) (by decide +kernel)⟩
theorem lw_p28 : lw_okq (⟨"DesiredStateKeeperModel", "refused", "(I)Z"⟩, 29) := ⟨⟨by decide +kernel, by decide +kernel⟩, List.mem_of_getElem? (i := 957) (by decide +kernel), List.mem_of_getElem? (i := 1063) (by decide +kernel), List.mem_of_getElem? (i := 1064) (by decide +kernel)⟩
theorem lw_p29 : lw_okq (⟨"DesiredStateKeeperModel", "readText", "()I"⟩, 29) := ⟨⟨by decide +kernel, by decide +kernel⟩, List.mem_of_getElem? (i := 957) (by decide +kernel), List.mem_of_getElem? (i := 1075) (by decide +kernel), List.mem_of_getElem? (i := 1076) (by decide +kernel)⟩
theorem lw_p30 : lw_okq (⟨"DesiredStateKeeperModel", "readHead", "()Z"⟩, 29) := ⟨⟨by decide +kernel, by decide +kernel⟩, List.mem_of_getElem? (i := 957) (by decide +kernel), List.mem_of_getElem? (i := 1079) (by decide +kernel), List.mem_of_getElem? (i := 1080) (by decide +kernel)⟩
theorem lw_p31 : lw_okq (⟨"DesiredStateKeeperModel", "passes", "(I)Z"⟩, 29) := ⟨⟨by decide +kernel, by decide +kernel⟩, List.mem_of_getElem? (i := 957) (by decide +kernel), List.mem_of_getElem? (i := 1083) (by decide +kernel), List.mem_of_getElem? (i := 1084) (by decide +kernel)⟩
def lw_privs_2 : List (MethodName × Nat) := [(⟨"DesiredStateKeeper$State", "driftedOn", "(I)I"⟩, 10), (⟨"DesiredStateKeeper$State", "digestOf", "(I)I"⟩, 10), (⟨"DesiredStateKeeper", "requireComponent", "(I)V"⟩, 10), (⟨"DesiredStateKeeper", "requireRule", "(I)V"⟩, 10), (⟨"DesiredStateKeeper$State", "isAwaited", "(II)Z"⟩, 10), (⟨"DesiredStateKeeper$Ways", "aimAt", "(I)V"⟩, 6), (⟨"DesiredStateKeeper$Ways", "enqueue", "(II)V"⟩, 6), (⟨"DesiredStateKeeper$Ways", "distanceOf", "(I)I"⟩, 6), (⟨"DesiredStateKeeper$Ways", "reachFrom", "(I)V"⟩, 6), (⟨"DesiredStateKeeper$Ways", "bestChange", "(I)I"⟩, 6), (⟨"DesiredStateKeeper$RuleBook", "raisedByNeeds", "(I)I"⟩, 4), (⟨"DesiredStateKeeper$State", "isFarther", "(II)Z"⟩, 10), (⟨"DesiredStateKeeperModel", "refused", "(I)Z"⟩, 29), (⟨"DesiredStateKeeperModel", "readText", "()I"⟩, 29), (⟨"DesiredStateKeeperModel", "readHead", "()Z"⟩, 29), (⟨"DesiredStateKeeperModel", "passes", "(I)Z"⟩, 29)]
theorem lw_r2 : ∀ q ∈ lw_privs_2, lw_okq q := List.forall_mem_cons.mpr ⟨lw_p16, List.forall_mem_cons.mpr ⟨lw_p17, List.forall_mem_cons.mpr ⟨lw_p18, List.forall_mem_cons.mpr ⟨lw_p19, List.forall_mem_cons.mpr ⟨lw_p20, List.forall_mem_cons.mpr ⟨lw_p21, List.forall_mem_cons.mpr ⟨lw_p22, List.forall_mem_cons.mpr ⟨lw_p23, List.forall_mem_cons.mpr ⟨lw_p24, List.forall_mem_cons.mpr ⟨lw_p25, List.forall_mem_cons.mpr ⟨lw_p26, List.forall_mem_cons.mpr ⟨lw_p27, List.forall_mem_cons.mpr ⟨lw_p28, List.forall_mem_cons.mpr ⟨lw_p29, List.forall_mem_cons.mpr ⟨lw_p30, List.forall_mem_cons.mpr ⟨lw_p31, fun _ h => absurd h List.not_mem_nil⟩⟩⟩⟩⟩⟩⟩⟩⟩⟩⟩⟩⟩⟩⟩⟩
theorem lw_p32 : lw_okq (⟨"DesiredStateKeeperModel", "digit", "(III)I"⟩, 29) := ⟨⟨by decide +kernel, by decide +kernel⟩, List.mem_of_getElem? (i := 957) (by decide +kernel), List.mem_of_getElem? (i := 1087) (by decide +kernel), List.mem_of_getElem? (i := 1088) (by decide +kernel)⟩
theorem lw_p33 : lw_okq (⟨"DesiredStateKeeperModel", "readItem", "()Z"⟩, 29) := ⟨⟨by decide +kernel, by decide +kernel⟩, List.mem_of_getElem? (i := 957) (by decide +kernel), List.mem_of_getElem? (i := 1094) (by decide +kernel), List.mem_of_getElem? (i := 1095) (by decide +kernel)⟩
theorem lw_p34 : lw_okq (⟨"DesiredStateKeeperModel", "readRule", "(I)Z"⟩, 29) := ⟨⟨by decide +kernel, by decide +kernel⟩, List.mem_of_getElem? (i := 957) (by decide +kernel), List.mem_of_getElem? (i := 1098) (by decide +kernel), List.mem_of_getElem? (i := 1099) (by decide +kernel)⟩
theorem lw_p35 : lw_okq (⟨"DesiredStateKeeperModel", "readVersion", "(I)Z"⟩, 29) := ⟨⟨by decide +kernel, by decide +kernel⟩, List.mem_of_getElem? (i := 957) (by decide +kernel), List.mem_of_getElem? (i := 1102) (by decide +kernel), List.mem_of_getElem? (i := 1103) (by decide +kernel)⟩
theorem lw_p36 : lw_okq (⟨"DesiredStateKeeperModel", "calmNodes", "([I)I"⟩, 29) := ⟨⟨by decide +kernel, by decide +kernel⟩, List.mem_of_getElem? (i := 957) (by decide +kernel), List.mem_of_getElem? (i := 1121) (by decide +kernel), List.mem_of_getElem? (i := 1122) (by decide +kernel)⟩
theorem lw_p37 : lw_okq (⟨"DesiredStateKeeperModel", "drifted", "([II)I"⟩, 29) := ⟨⟨by decide +kernel, by decide +kernel⟩, List.mem_of_getElem? (i := 957) (by decide +kernel), List.mem_of_getElem? (i := 1125) (by decide +kernel), List.mem_of_getElem? (i := 1126) (by decide +kernel)⟩
theorem lw_p38 : lw_okq (⟨"DesiredStateKeeperModel", "isDrifted", "([III)Z"⟩, 29) := ⟨⟨by decide +kernel, by decide +kernel⟩, List.mem_of_getElem? (i := 957) (by decide +kernel), List.mem_of_getElem? (i := 1129) (by decide +kernel), List.mem_of_getElem? (i := 1130) (by decide +kernel)⟩
theorem lw_p39 : lw_okq (⟨"DesiredStateKeeperModel", "isNode", "(I)Z"⟩, 29) := ⟨⟨by decide +kernel, by decide +kernel⟩, List.mem_of_getElem? (i := 957) (by decide +kernel), List.mem_of_getElem? (i := 1137) (by decide +kernel), List.mem_of_getElem? (i := 1138) (by decide +kernel)⟩
theorem lw_p40 : lw_okq (⟨"DesiredStateKeeperModel", "tell", "([III)I"⟩, 29) := ⟨⟨by decide +kernel, by decide +kernel⟩, List.mem_of_getElem? (i := 957) (by decide +kernel), List.mem_of_getElem? (i := 1142) (by decide +kernel), List.mem_of_getElem? (i := 1143) (by decide +kernel)⟩
theorem lw_p41 : lw_okq (⟨"DesiredStateKeeperModel", "codeOf", "([III)I"⟩, 29) := ⟨⟨by decide +kernel, by decide +kernel⟩, List.mem_of_getElem? (i := 957) (by decide +kernel), List.mem_of_getElem? (i := 1149) (by decide +kernel), List.mem_of_getElem? (i := 1150) (by decide +kernel)⟩
theorem lw_p42 : lw_okq (⟨"DesiredStateKeeperModel", "broken", "(I)I"⟩, 29) := ⟨⟨by decide +kernel, by decide +kernel⟩, List.mem_of_getElem? (i := 957) (by decide +kernel), List.mem_of_getElem? (i := 1153) (by decide +kernel), List.mem_of_getElem? (i := 1154) (by decide +kernel)⟩
theorem lw_p43 : lw_okq (⟨"DesiredStateKeeperModel", "digestOf", "([II)I"⟩, 29) := ⟨⟨by decide +kernel, by decide +kernel⟩, List.mem_of_getElem? (i := 957) (by decide +kernel), List.mem_of_getElem? (i := 1160) (by decide +kernel), List.mem_of_getElem? (i := 1161) (by decide +kernel)⟩
theorem lw_p44 : lw_okq (⟨"DesiredStateKeeperModel", "isPart", "(I)Z"⟩, 29) := ⟨⟨by decide +kernel, by decide +kernel⟩, List.mem_of_getElem? (i := 957) (by decide +kernel), List.mem_of_getElem? (i := 1168) (by decide +kernel), List.mem_of_getElem? (i := 1169) (by decide +kernel)⟩
theorem lw_p45 : lw_okq (⟨"DesiredStateKeeperModel", "change", "(II)I"⟩, 29) := ⟨⟨by decide +kernel, by decide +kernel⟩, List.mem_of_getElem? (i := 957) (by decide +kernel), List.mem_of_getElem? (i := 1193) (by decide +kernel), List.mem_of_getElem? (i := 1194) (by decide +kernel)⟩
theorem lw_p46 : lw_okq (⟨"DesiredStateKeeperModel", "note", "()V"⟩, 29) := ⟨⟨by decide +kernel, by decide +kernel⟩, List.mem_of_getElem? (i := 957) (by decide +kernel), List.mem_of_getElem? (i := 1197) (by decide +kernel), List.mem_of_getElem? (i := 1198) (by decide +kernel)⟩
theorem lw_p47 : lw_okq (⟨"DesiredStateKeeperModel", "tickOn", "([I)V"⟩, 29) := ⟨⟨by decide +kernel, by decide +kernel⟩, List.mem_of_getElem? (i := 957) (by decide +kernel), List.mem_of_getElem? (i := 1240) (by decide +kernel), List.mem_of_getElem? (i := 1241) (by decide +kernel)⟩
def lw_privs_3 : List (MethodName × Nat) := [(⟨"DesiredStateKeeperModel", "digit", "(III)I"⟩, 29), (⟨"DesiredStateKeeperModel", "readItem", "()Z"⟩, 29), (⟨"DesiredStateKeeperModel", "readRule", "(I)Z"⟩, 29), (⟨"DesiredStateKeeperModel", "readVersion", "(I)Z"⟩, 29), (⟨"DesiredStateKeeperModel", "calmNodes", "([I)I"⟩, 29), (⟨"DesiredStateKeeperModel", "drifted", "([II)I"⟩, 29), (⟨"DesiredStateKeeperModel", "isDrifted", "([III)Z"⟩, 29), (⟨"DesiredStateKeeperModel", "isNode", "(I)Z"⟩, 29), (⟨"DesiredStateKeeperModel", "tell", "([III)I"⟩, 29), (⟨"DesiredStateKeeperModel", "codeOf", "([III)I"⟩, 29), (⟨"DesiredStateKeeperModel", "broken", "(I)I"⟩, 29), (⟨"DesiredStateKeeperModel", "digestOf", "([II)I"⟩, 29), (⟨"DesiredStateKeeperModel", "isPart", "(I)Z"⟩, 29), (⟨"DesiredStateKeeperModel", "change", "(II)I"⟩, 29), (⟨"DesiredStateKeeperModel", "note", "()V"⟩, 29), (⟨"DesiredStateKeeperModel", "tickOn", "([I)V"⟩, 29)]
theorem lw_r3 : ∀ q ∈ lw_privs_3, lw_okq q := List.forall_mem_cons.mpr ⟨lw_p32, List.forall_mem_cons.mpr ⟨lw_p33, List.forall_mem_cons.mpr ⟨lw_p34, List.forall_mem_cons.mpr ⟨lw_p35, List.forall_mem_cons.mpr ⟨lw_p36, List.forall_mem_cons.mpr ⟨lw_p37, List.forall_mem_cons.mpr ⟨lw_p38, List.forall_mem_cons.mpr ⟨lw_p39, List.forall_mem_cons.mpr ⟨lw_p40, List.forall_mem_cons.mpr ⟨lw_p41, List.forall_mem_cons.mpr ⟨lw_p42, List.forall_mem_cons.mpr ⟨lw_p43, List.forall_mem_cons.mpr ⟨lw_p44, List.forall_mem_cons.mpr ⟨lw_p45, List.forall_mem_cons.mpr ⟨lw_p46, List.forall_mem_cons.mpr ⟨lw_p47, fun _ h => absurd h List.not_mem_nil⟩⟩⟩⟩⟩⟩⟩⟩⟩⟩⟩⟩⟩⟩⟩⟩
theorem lw_p48 : lw_okq (⟨"DesiredStateKeeperModel", "nextOf", "([II)I"⟩, 29) := ⟨⟨by decide +kernel, by decide +kernel⟩, List.mem_of_getElem? (i := 957) (by decide +kernel), List.mem_of_getElem? (i := 1244) (by decide +kernel), List.mem_of_getElem? (i := 1245) (by decide +kernel)⟩
theorem lw_p49 : lw_okq (⟨"DesiredStateKeeperModel", "stateOf", "([III)I"⟩, 29) := ⟨⟨by decide +kernel, by decide +kernel⟩, List.mem_of_getElem? (i := 957) (by decide +kernel), List.mem_of_getElem? (i := 1248) (by decide +kernel), List.mem_of_getElem? (i := 1249) (by decide +kernel)⟩
theorem lw_p50 : lw_okq (⟨"DesiredStateKeeperModel", "waitsForRings", "([III)Z"⟩, 29) := ⟨⟨by decide +kernel, by decide +kernel⟩, List.mem_of_getElem? (i := 957) (by decide +kernel), List.mem_of_getElem? (i := 1255) (by decide +kernel), List.mem_of_getElem? (i := 1256) (by decide +kernel)⟩
theorem lw_p51 : lw_okq (⟨"DesiredStateKeeperModel", "newlyBroken", "([IIII)I"⟩, 29) := ⟨⟨by decide +kernel, by decide +kernel⟩, List.mem_of_getElem? (i := 957) (by decide +kernel), List.mem_of_getElem? (i := 1259) (by decide +kernel), List.mem_of_getElem? (i := 1260) (by decide +kernel)⟩
theorem lw_p52 : lw_okq (⟨"DesiredStateKeeperModel", "layWays", "(I)V"⟩, 29) := ⟨⟨by decide +kernel, by decide +kernel⟩, List.mem_of_getElem? (i := 957) (by decide +kernel), List.mem_of_getElem? (i := 1303) (by decide +kernel), List.mem_of_getElem? (i := 1304) (by decide +kernel)⟩
theorem lw_p53 : lw_okq (⟨"DesiredStateKeeperModel", "firstStep", "(I)I"⟩, 29) := ⟨⟨by decide +kernel, by decide +kernel⟩, List.mem_of_getElem? (i := 957) (by decide +kernel), List.mem_of_getElem? (i := 1311) (by decide +kernel), List.mem_of_getElem? (i := 1312) (by decide +kernel)⟩
theorem lw_p54 : lw_okq (⟨"DesiredStateKeeperModel", "layNeeds", "(II)V"⟩, 29) := ⟨⟨by decide +kernel, by decide +kernel⟩, List.mem_of_getElem? (i := 957) (by decide +kernel), List.mem_of_getElem? (i := 1319) (by decide +kernel), List.mem_of_getElem? (i := 1320) (by decide +kernel)⟩
theorem lw_p55 : lw_okq (⟨"DesiredStateKeeperModel", "distance", "(I)I"⟩, 29) := ⟨⟨by decide +kernel, by decide +kernel⟩, List.mem_of_getElem? (i := 957) (by decide +kernel), List.mem_of_getElem? (i := 1336) (by decide +kernel), List.mem_of_getElem? (i := 1337) (by decide +kernel)⟩
theorem lw_p56 : lw_okq (⟨"DesiredStateKeeperModel", "command", "(I)Z"⟩, 29) := ⟨⟨by decide +kernel, by decide +kernel⟩, List.mem_of_getElem? (i := 957) (by decide +kernel), List.mem_of_getElem? (i := 1348) (by decide +kernel), List.mem_of_getElem? (i := 1349) (by decide +kernel)⟩
def lw_privs_4 : List (MethodName × Nat) := [(⟨"DesiredStateKeeperModel", "nextOf", "([II)I"⟩, 29), (⟨"DesiredStateKeeperModel", "stateOf", "([III)I"⟩, 29), (⟨"DesiredStateKeeperModel", "waitsForRings", "([III)Z"⟩, 29), (⟨"DesiredStateKeeperModel", "newlyBroken", "([IIII)I"⟩, 29), (⟨"DesiredStateKeeperModel", "layWays", "(I)V"⟩, 29), (⟨"DesiredStateKeeperModel", "firstStep", "(I)I"⟩, 29), (⟨"DesiredStateKeeperModel", "layNeeds", "(II)V"⟩, 29), (⟨"DesiredStateKeeperModel", "distance", "(I)I"⟩, 29), (⟨"DesiredStateKeeperModel", "command", "(I)Z"⟩, 29)]
theorem lw_r4 : ∀ q ∈ lw_privs_4, lw_okq q := List.forall_mem_cons.mpr ⟨lw_p48, List.forall_mem_cons.mpr ⟨lw_p49, List.forall_mem_cons.mpr ⟨lw_p50, List.forall_mem_cons.mpr ⟨lw_p51, List.forall_mem_cons.mpr ⟨lw_p52, List.forall_mem_cons.mpr ⟨lw_p53, List.forall_mem_cons.mpr ⟨lw_p54, List.forall_mem_cons.mpr ⟨lw_p55, List.forall_mem_cons.mpr ⟨lw_p56, fun _ h => absurd h List.not_mem_nil⟩⟩⟩⟩⟩⟩⟩⟩⟩
def lw_privs : List (MethodName × Nat) := lw_privs_1 ++ (lw_privs_2 ++ (lw_privs_3 ++ (lw_privs_4)))
def lw_tbl : List Cond := k2_sels lw_privs ++ tables_1
theorem lw_privs_ok : ∀ q ∈ lw_privs, lw_okq q := by
  show ∀ q ∈ lw_privs_1 ++ (lw_privs_2 ++ (lw_privs_3 ++ (lw_privs_4))), lw_okq q
  exact List.forall_mem_append.mpr ⟨lw_r1, List.forall_mem_append.mpr ⟨lw_r2, List.forall_mem_append.mpr ⟨lw_r3, lw_r4⟩⟩⟩
end
section
/-! ===== BEGIN words of one list among another's, by their places ===== -/
theorem goodIn_r {big : List Cond} (ws : List Cond) (ps : List Nat) (hp : ws = ps.filterMap (fun i => big[i]?)) (h : ws.all goodWord = true) : GoodIn big ws := by
  intro w hw
  have h1 := List.all_eq_true.mp h w hw
  rw [hp] at hw
  obtain ⟨i, -, hi⟩ := List.mem_filterMap.mp hw
  have hm : w ∈ big := by first | exact List.mem_of_getElem? hi | exact List.getElem?_mem hi
  exact ⟨hm, good_of_word h1⟩
theorem goodIn_app {big a b : List Cond} (ha : GoodIn big a) (hb : GoodIn big b) : GoodIn big (a ++ b) := fun w h => (List.mem_append.mp h).elim (ha w) (hb w)
theorem goodIn_ca {big a b : List Cond} {c : Cond} (ha : GoodIn big (c :: a)) (hb : GoodIn big b) : GoodIn big (c :: (a ++ b)) := fun w h => (List.mem_cons.mp h).elim (fun e => ha w (List.mem_cons.mpr (Or.inl e))) (fun h => (List.mem_append.mp h).elim (fun h => ha w (List.mem_cons.mpr (Or.inr h))) (hb w))
theorem goodIn_sub {big ws : List Cond} (hm : ∀ w ∈ ws, w ∈ big) (h : ws.all goodWord = true) : GoodIn big ws := fun w hw => ⟨hm w hw, good_of_word (List.all_eq_true.mp h w hw)⟩
/-! ===== END ===== -/

/-! ===== BEGIN exceptions that leave a method, and their catching by the caller (launches without stack traces) ===== -/
section VXA
/-! The laws vx_back, vx_callV, vx_callS, vx_callSW, vx_throw0, vx_throwS follow proofs of the library, with one case more: JvmDerived/Free/Laws.lean (Back.of_free), Shelf42/LK1.lean (callV, callS), Shelf/KitTraced.lean (throwNew0V, throwNewS). -/
/-- where a method has thrown q: the class by its name, the cell, what was written, the world -/
def vx_T (XC : String → State → State → Prop) (st : State) (q : Addr) (t : State) (mc ms : Nat) (free : Addr → Prop) : Prop :=
  ∃ (E : String) (ce : Cell) (L : List Loc), XC E st t ∧ t.heap[q]? = some ce ∧ ce.vm = .none ∧ st.vm.findClass E = some ce.cls ∧ st.WarmedH t.vm ∧ st.sameButNew ({ t with vm := st.vm } : State) L mc ms ∧ ∀ z ∈ L, free z.base
def vx_Q (Qc : Array Value → State → Outcome → State → Prop) (XC : String → State → State → Prop) (mc ms : Nat) (free : Addr → Prop) : Array Value → State → Outcome → State → Prop := fun a st o t =>
  (Qc a st o t ∧ ∃ L, FrameEnd st o t L mc ms ∧ ∀ q ∈ L, free q.base) ∨ ∃ q, o = .threw q ∧ vx_T XC st q t mc ms free
/-- a callee that returns or throws -/
def vx_Met (l : Launch) (y : MethodName) (ws : List Cond) (rm : Room) (Pc : Array Value → State → Prop) (Qc : Array Value → State → Outcome → State → Prop) (XC : String → State → State → Prop) (mc ms : Nat) (free : Addr → Prop) : Prop :=
  MetFree l y (headSpec ws rm) Pc (fun _ _ _ _ _ => True) (vx_Q Qc XC mc ms free)
def vx_Post (XC : String → State → State → Prop) (mc ms : Nat) (free : Addr → Prop) : Pt → Array Value → Addr → Pt → Prop := fun A a q B =>
  ∃ (g : JFrame) (mk : MethodId) (t : State) (L : List Loc) (E : String) (ce : Cell), B.U.heap = t.heap ∧ B.U.vm = t.vm ∧ XC E (A.U.calling g mk a) t ∧ t.heap[q]? = some ce ∧ ce.vm = .none ∧ A.U.vm.findClass E = some ce.cls ∧ B.locs = A.locs ++ L ∧ (∀ z ∈ L, free z.base) ∧ B.cells = A.cells + mc ∧ B.slots = A.slots + ms
def vx_Back (l : Launch) (R : Room) (p : Program) (e : Env) (below : List Frame) (s : State) (sargs : Array Value) (y : MethodName) (len W9 : Nat)
    (Pre : Pt → Array Value → Prop) (Post : Pt → Array Value → Option Value → Pt → Prop) (PostX : Pt → Array Value → Addr → Pt → Prop) : Prop :=
  ∀ (m : MethodId) (meth : Method) (c : Code) (A : Pt) (g : JFrame) (ig : Instr) (mk : MethodId) (a : Array Value),
    Stand p l e R s m sargs below meth c A.U A.locs A.cells A.slots → g.method = m → g.locals.size = c.maxLocals → decode c.code g.pc = .ok (ig, len) →
    2 * g.monitorRoom + (g.stack.map fun v => v.category).sum ≤ W9 → A.U.methodNamed? y = some mk → Pre A a →
    (∃ (v : Option Value) (B : Pt), Stand p l e R s m sargs below meth c B.U B.locs B.cells B.slots ∧ Post A a v B ∧
      Steps p.tables e below (doInvoke e (A.U.setTop g) [] mk a).1 (B.U.setTop { g with pc := g.pc + len, stack := v.toList ++ g.stack })) ∨
    (∃ (q : Addr) (B : Pt), Stand p l e R s m sargs below meth c B.U B.locs B.cells B.slots ∧ PostX A a q B ∧
      Steps p.tables e below (doInvoke e (A.U.setTop g) [] mk a).1 ((B.U.setTop g).pushFrame (.throwing q)))
section Payer
variable {l : Launch} {R : Room} {p : Program} {e : Env} {below : List Frame} {s : State} {sargs : Array Value} {y : MethodName} {len W9 : Nat}
theorem vx_back {ws : List Cond} {rm : Room} {Pc : Array Value → State → Prop} {Qc : Array Value → State → Outcome → State → Prop} {XC : String → State → State → Prop} {mc ms : Nat} {free : Addr → Prop} {bytes : ByteArray} {maxL : Nat} {ret : Option FieldType}
    (hM : vx_Met l y ws rm Pc Qc XC mc ms free) (hblind : FrameBlind Pc) (hrc : rm.cells = mc) (hrs : rm.slots = ms)
    (hframes : rm.frames + 1 ≤ R.frames) (hlocals : W9 + (maxL + 11) + rm.locals ≤ R.locals)
    (hws : ∀ w ∈ ws, ∀ a' U, s.WarmedH U.vm → w.before a' U = true) (hcode : Cond.code y bytes maxL ret ∈ ws) (hinit : ∀ a' U, s.WarmedH U.vm → (Cond.initialized y.cls).before a' U = true) :
    vx_Back l R p e below s sargs y len W9 (PreOf R mc ms Pc) (PostOf Qc mc ms free) (vx_Post XC mc ms free) := by
  intro m meth c A g ig mk a X hg hsize hdg hW hn hp
  have h1 : (headSpec ws rm).pre.before a A.U = true := atoms_intro fun w hw => hws w hw _ _ X.warmed
  have h2 : (Cond.code y bytes maxL ret).before a A.U = true := hws _ hcode _ _ X.warmed
  have h3 : (Cond.initialized y.cls).before a A.U = true := hinit _ _ X.warmed
  have h4 : A.cells + (headSpec ws rm).room.cells ≤ R.cells := by rw [show (headSpec ws rm).room.cells = mc from hrc]; exact hp.1
  have h5 : A.slots + (headSpec ws rm).room.slots ≤ R.slots := by rw [show (headSpec ws rm).room.slots = ms from hrs]; exact hp.2.1
  have hPc : Pc a (A.U.calling g mk a) := hblind _ _ _ _ hp.2.2
  obtain ⟨U, Ls, c0, s0⟩ := A
  dsimp only [Pt.U, Pt.locs, Pt.cells, Pt.slots] at h1 h2 h3 h4 h5 X hn hPc ⊢
  obtain ⟨methY, cY, hmY, hcY, -, hlY, -, -, -, -⟩ := Cond.code_spec hn h2
  obtain ⟨kY, hkY, -⟩ := className_of_methodNamed hn
  have hinitY : kY.init = .initialized := Cond.initialized_spec (findClass_of_methodNamed hn) hkY h3
  have h : At U g.method c below := by rw [hg]; exact X.here
  have hlocals9 : W9 + (maxL + 11) + (headSpec ws rm).room.locals ≤ R.locals := hlocals
  have happ : (headSpec ws rm).appliesLoose y e.platform (U.calling g mk a) = true :=
    Spec.appliesLoose_calling (g := g) h hdg hn hkY hinitY
      (X.room_calling (g := g) (R' := (headSpec ws rm).room) hsize hmY hcY hframes (by rw [hlY]; omega) h4 h5) h1
  obtain ⟨mid, hmid⟩ := h.above
  have hfr : (U.setTop g).frames = (.java g :: mid) ++ below := by rw [State.frames_setTop' g h.top, hmid]; rfl
  obtain ⟨o, s₂, hsteps, -, hend, hq⟩ := Steps.callFree hM p X.admits X.cas X.clock (acts := []) hfr happ hPc trivial
  have hq' : vx_Q Qc XC mc ms free a (U.calling g mk a) o s₂ := hq
  rw [State.frames_setTop' g h.top] at hend
  obtain ⟨g₀, hg0⟩ := Option.isSome_iff_exists.mp h.top
  obtain ⟨r, hr⟩ := State.topJava?_eq_some.mp hg0
  have hr' : (({ U with heap := s₂.heap, slotsUsed := s₂.slotsUsed } : State).setVm s₂.vm).frames = .java g₀ :: r := hr
  rcases hq' with ⟨hqc, L, hfe, hL⟩ | ⟨q, rfl, E, ce, L, hx, hce, hcv, hcl, hW₂, hsm, hL⟩
  · obtain ⟨⟨v, rfl⟩, hW₂, e2, q2, q3, q4, q5, q6⟩ := id hfe
    have e3 : s₂ = ({ (U.calling g mk a).setFrames s₂.frames with heap := s₂.heap, slotsUsed := s₂.slotsUsed } : State).setVm s₂.vm := by
      have : s₂ = ({ s₂ with vm := (U.calling g mk a).vm } : State).setVm s₂.vm := rfl
      rw [e2] at this
      exact this
    obtain ⟨c₂, i₂, len₂, hc₂, hd₂, hf₂⟩ := hend
    have hW' : U.WarmedH s₂.vm := hW₂
    have hcc : c₂ = c := by
      have h1 : s₂.code? g.method = U.code? g.method := by
        rw [State.code?_eq, State.code?_eq, hW'.alike.method?]
      exact Option.some.inj (hc₂.symm.trans (h1.trans h.code))
    subst hcc
    have hlen : len₂ = len := by rw [hdg] at hd₂; cases hd₂; rfl
    subst hlen
    have hs₂ : s₂ = (({ U with heap := s₂.heap, slotsUsed := s₂.slotsUsed } : State).setVm s₂.vm).setTop { g with pc := g.pc + len₂, stack := v.toList ++ g.stack } := by
      refine e3.trans ?_
      rw [hf₂, State.calling_eq h.top, State.setFrames_setFrames, State.setTop_of_frames _ hr', hr]
      rfl
    have hsame : U.sameButNew ({ U with heap := s₂.heap, slotsUsed := s₂.slotsUsed } : State) L mc ms := by
      refine ⟨?_, q2, q3, q4, q5, q6⟩
      obtain ⟨t, ht, -⟩ := State.frames_cons hr
      show ({ U with heap := s₂.heap, slotsUsed := s₂.slotsUsed } : State) = { U.setFrames U.frames with heap := s₂.heap, slotsUsed := s₂.slotsUsed }
      rw [State.setFrames_self ht]
    subst hg
    refine Or.inl ⟨v, ⟨(({ U with heap := s₂.heap, slotsUsed := s₂.slotsUsed } : State).setVm s₂.vm), Ls ++ L, c0 + mc, s0 + ms⟩,
      ⟨X.admits, X.cas, X.clock, X.frames, X.room, X.hears, X.method, X.code, (X.here.setHeapUsed s₂.heap s₂.slotsUsed).setVm hW'.alike, X.tail, State.WarmedH.trans X.warmed hW', X.limits, X.bytes, X.same.trans (hsame.setVm s.vm)⟩,
      ⟨g, mk, s₂, L, rfl, rfl, hqc, rfl, hL, rfl, rfl⟩, ?_⟩
    show Steps p.tables e below _ ((({ U with heap := s₂.heap, slotsUsed := s₂.slotsUsed } : State).setVm s₂.vm).setTop { g with pc := g.pc + len₂, stack := v.toList ++ g.stack })
    rw [← hs₂]
    exact hsteps
  · obtain ⟨e2, q2, q3, q4, q5, q6⟩ := id hsm
    have e3 : s₂ = ({ (U.calling g mk a).setFrames s₂.frames with heap := s₂.heap, slotsUsed := s₂.slotsUsed } : State).setVm s₂.vm := by
      have : s₂ = ({ s₂ with vm := (U.calling g mk a).vm } : State).setVm s₂.vm := rfl
      rw [e2] at this
      exact this
    have hf₂ : s₂.frames = .throwing q :: .java g :: U.frames.tail := hend
    have hW' : U.WarmedH s₂.vm := hW₂
    have hs₂ : s₂ = ((({ U with heap := s₂.heap, slotsUsed := s₂.slotsUsed } : State).setVm s₂.vm).setTop g).pushFrame (.throwing q) := by
      refine e3.trans ?_
      rw [hf₂, State.calling_eq h.top, State.setFrames_setFrames, State.pushFrame, State.frames_setTop _ hr', State.setTop_of_frames _ hr', State.setFrames_setFrames, hr]
      rfl
    have hsame : U.sameButNew ({ U with heap := s₂.heap, slotsUsed := s₂.slotsUsed } : State) L mc ms := by
      refine ⟨?_, q2, q3, q4, q5, q6⟩
      obtain ⟨t, ht, -⟩ := State.frames_cons hr
      show ({ U with heap := s₂.heap, slotsUsed := s₂.slotsUsed } : State) = { U.setFrames U.frames with heap := s₂.heap, slotsUsed := s₂.slotsUsed }
      rw [State.setFrames_self ht]
    subst hg
    refine Or.inr ⟨q, ⟨(({ U with heap := s₂.heap, slotsUsed := s₂.slotsUsed } : State).setVm s₂.vm), Ls ++ L, c0 + mc, s0 + ms⟩,
      ⟨X.admits, X.cas, X.clock, X.frames, X.room, X.hears, X.method, X.code, (X.here.setHeapUsed s₂.heap s₂.slotsUsed).setVm hW'.alike, X.tail, State.WarmedH.trans X.warmed hW', X.limits, X.bytes, X.same.trans (hsame.setVm s.vm)⟩,
      ⟨g, mk, s₂, L, E, ce, rfl, rfl, hx, hce, hcv, hcl, rfl, hL, rfl, rfl⟩, ?_⟩
    show Steps p.tables e below _ (((({ U with heap := s₂.heap, slotsUsed := s₂.slotsUsed } : State).setVm s₂.vm).setTop g).pushFrame (.throwing q))
    rw [← hs₂]
    exact hsteps
end Payer
section Calls
variable {p : Program} {l : Launch} {e : Env} {R : Room} {s : State} {m : MethodId} {args : Array Value} {below : List Frame} {meth : Method} {c : Code} {T : State} {locs : List Loc} {cells slots : Nat}
theorem vx_callV (X : Stand p l e R s m args below meth c T locs cells slots) (hexec : p.tables.exec = Jvm.exec) {own C : String} {index : Nat} {y : MethodName} {bytes : ByteArray} {maxL : Nat} {ret : Option FieldType}
    (hown : s.vm.findClass own = some m.cls) (hlink : (Cond.methodLink own index y).before args s = true) (hinst : (Cond.instanceMethod y).before args s = true) (hsel : (Cond.selects C y y).before args s = true)
    (hcode : (Cond.code y bytes maxL ret).before args s = true) (hy : y.cls ≠ "java/lang/invoke/MethodHandle" ∧ y.cls ≠ "java/lang/invoke/VarHandle")
    {W9 : Nat} {Pre : Pt → Array Value → Prop} {Post : Pt → Array Value → Option Value → Pt → Prop} {PostX : Pt → Array Value → Addr → Pt → Prop} (hK : vx_Back l R p e below s args y 3 W9 Pre Post PostX)
    {b : Addr} {cellB : Cell} (hcell : T.heap[b]? = some cellB) (hobj : cellB.vm.isStatics = false) (hcls : s.vm.findClass C = some cellB.cls)
    {g : JFrame} (hg : g.method = m) (hsize : g.locals.size = c.maxLocals) {argsL rest : List Value} (hlen : ∀ sig, parseMethodDescriptor y.desc = some sig → argsL.length = sig.parameters.length)
    (hstack : g.stack = argsL.reverse ++ .ref b :: rest) (hW : 2 * g.monitorRoom + (rest.map fun v => v.category).sum ≤ W9) (hdg : decode c.code g.pc = .ok (.invokevirtual index, 3))
    (hpre : ∀ vm₁, s.WarmedH vm₁ → Pre ⟨T.setVm vm₁, locs, cells, slots⟩ (Value.ref b :: argsL).toArray) :
    (∃ (v : Option Value) (vm₁ : Vm) (B : Pt), s.WarmedH vm₁ ∧ Stand p l e R s m args below meth c B.U B.locs B.cells B.slots ∧ Post ⟨T.setVm vm₁, locs, cells, slots⟩ (Value.ref b :: argsL).toArray v B ∧
      ∀ target, Steps p.tables e below (B.U.setTop { g with pc := g.pc + 3, stack := v.toList ++ rest }) target → Steps p.tables e below (T.setTop g) target) ∨
    (∃ (q : Addr) (vm₁ : Vm) (B : Pt), s.WarmedH vm₁ ∧ Stand p l e R s m args below meth c B.U B.locs B.cells B.slots ∧ PostX ⟨T.setVm vm₁, locs, cells, slots⟩ (Value.ref b :: argsL).toArray q B ∧
      Steps p.tables e below (T.setTop g) ((B.U.setTop { g with stack := rest }).pushFrame (.throwing q))) := by
  obtain ⟨mk, methM, hnamed, hmethM, hstM, habM⟩ := Cond.instanceMethod_spec hinst
  obtain ⟨methM', cM, hmethM', -, -, -, -, -, -, hsigM⟩ := Cond.code_spec hnamed hcode
  cases hmethM.symm.trans hmethM'
  obtain ⟨c2, r2, m2, q1, q2, q3, q4, kP, hkP, hkPi⟩ := Cond.selects_spec hsel
  cases hcls.symm.trans q1
  cases (State.methodFound?_of_named hnamed hy).symm.trans q2
  cases hnamed.symm.trans q3
  have hselP : selectMethod e.platform s.vm cellB.cls mk = .method mk := by rw [Launch.admits_selectMethod X.admits]; exact q4
  obtain ⟨vm₁, X₁, hstep₁⟩ := X.invokevirtual hexec hown hlink hnamed hmethM hstM hkP hkPi hy (a := b) (cell := cellB) hcell
    (fun z h => by rw [h] at hobj; cases hobj) hselP hmethM habM hkP hkPi (g := g) hg (argsL := argsL) (rest := rest) (hlen _ hsigM) hstack hdg
  rcases hK m meth c ⟨T.setVm vm₁, locs, cells, slots⟩ { g with stack := rest } (.invokevirtual index) mk (Value.ref b :: argsL).toArray X₁ hg hsize hdg hW (X₁.named hnamed) (hpre vm₁ X₁.warmed) with ⟨v, B, X', hpost, hsteps⟩ | ⟨q, B, X', hpost, hsteps⟩
  · exact Or.inl ⟨v, vm₁, B, X₁.warmed, X', hpost, fun target h => hstep₁ _ fun acts => by rw [doInvoke_state]; exact hsteps.trans h⟩
  · exact Or.inr ⟨q, vm₁, B, X₁.warmed, X', hpost, hstep₁ _ fun acts => by rw [doInvoke_state]; exact hsteps⟩
theorem vx_callS (X : Stand p l e R s m args below meth c T locs cells slots) (hexec : p.tables.exec = Jvm.exec) {own : String} {index : Nat} {y : MethodName} {bytes : ByteArray} {maxL : Nat} {ret : Option FieldType}
    (hown : s.vm.findClass own = some m.cls) (hlink : (Cond.methodLink own index y).before args s = true) (hstat : (Cond.static y).before args s = true) (hinit : (Cond.initialized y.cls).before args s = true)
    (hcode : (Cond.code y bytes maxL ret).before args s = true) (hy : y.cls ≠ "java/lang/invoke/MethodHandle" ∧ y.cls ≠ "java/lang/invoke/VarHandle")
    {W9 : Nat} {Pre : Pt → Array Value → Prop} {Post : Pt → Array Value → Option Value → Pt → Prop} {PostX : Pt → Array Value → Addr → Pt → Prop} (hK : vx_Back l R p e below s args y 3 W9 Pre Post PostX)
    {g : JFrame} (hg : g.method = m) (hsize : g.locals.size = c.maxLocals) {argsL rest : List Value} (hlen : ∀ sig, parseMethodDescriptor y.desc = some sig → argsL.length = sig.parameters.length)
    (hstack : g.stack = argsL.reverse ++ rest) (hW : 2 * g.monitorRoom + (rest.map fun v => v.category).sum ≤ W9) (hdg : decode c.code g.pc = .ok (.invokestatic index, 3))
    (hpre : ∀ vm₁, s.WarmedH vm₁ → Pre ⟨T.setVm vm₁, locs, cells, slots⟩ argsL.toArray) :
    (∃ (v : Option Value) (vm₁ : Vm) (B : Pt), s.WarmedH vm₁ ∧ Stand p l e R s m args below meth c B.U B.locs B.cells B.slots ∧ Post ⟨T.setVm vm₁, locs, cells, slots⟩ argsL.toArray v B ∧
      ∀ target, Steps p.tables e below (B.U.setTop { g with pc := g.pc + 3, stack := v.toList ++ rest }) target → Steps p.tables e below (T.setTop g) target) ∨
    (∃ (q : Addr) (vm₁ : Vm) (B : Pt), s.WarmedH vm₁ ∧ Stand p l e R s m args below meth c B.U B.locs B.cells B.slots ∧ PostX ⟨T.setVm vm₁, locs, cells, slots⟩ argsL.toArray q B ∧
      Steps p.tables e below (T.setTop g) ((B.U.setTop { g with stack := rest }).pushFrame (.throwing q))) := by
  obtain ⟨mk, hnamed⟩ := Cond.code_named hcode
  obtain ⟨methM, cM, hmethM, -, -, -, -, -, -, hsigM⟩ := Cond.code_spec hnamed hcode
  have hstatic : methM.isStatic = true := Cond.static_spec hnamed hmethM hstat
  obtain ⟨kP, hkP, -⟩ := className_of_methodNamed hnamed
  have hinitP : kP.init = .initialized := Cond.initialized_spec (findClass_of_methodNamed hnamed) hkP hinit
  obtain ⟨vm₁, X₁, hstep₁⟩ := X.invokestatic hexec hown hlink hnamed hmethM hstatic hkP hinitP hy (g := g) hg (argsL := argsL) (rest := rest) (hlen _ hsigM) hstack hdg
  rcases hK m meth c ⟨T.setVm vm₁, locs, cells, slots⟩ { g with stack := rest } (.invokestatic index) mk argsL.toArray X₁ hg hsize hdg hW (X₁.named hnamed) (hpre vm₁ X₁.warmed) with ⟨v, B, X', hpost, hsteps⟩ | ⟨q, B, X', hpost, hsteps⟩
  · exact Or.inl ⟨v, vm₁, B, X₁.warmed, X', hpost, fun target h => hstep₁ _ fun acts => by rw [doInvoke_state]; exact hsteps.trans h⟩
  · exact Or.inr ⟨q, vm₁, B, X₁.warmed, X', hpost, hstep₁ _ fun acts => by rw [doInvoke_state]; exact hsteps⟩
end Calls
theorem vx_cls {s : State} {T : State} {vm₁ : Vm} {E : String} {k : ClassId} (hW : s.WarmedH vm₁) (h : (T.setVm vm₁).vm.findClass E = some k) : s.vm.findClass E = some k := by
  have h1 : vm₁.findClass E = some k := h
  rw [hW.alike.findClass] at h1
  exact h1
/-- the method's frame g, with q thrown over it -/
def vx_W (p : Program) (l : Launch) (e : Env) (R : Room) (s : State) (m : MethodId) (args : Array Value) (below : List Frame) (meth : Method) (c : Code) (H : Heap) (locs : List Loc) (cells slots : Nat) (Q : State → Prop) (g : JFrame) (q : Addr) : Prop :=
  ∀ T : State, T.heap = H → Stand p l e R s m args below meth c T locs cells slots → ∃ t, Steps p.tables e below ((T.setTop g).pushFrame (.throwing q)) t ∧ Q t
def vx_Run (p : Program) (l : Launch) (e : Env) (R : Room) (s : State) (m : MethodId) (args : Array Value) (below : List Frame) (meth : Method) (c : Code) (H : Heap) (locs : List Loc) (cells slots mc ms : Nat) (g : JFrame) (rest : List Value) (Qa : State → Outcome → State → Prop) (XC : String → State → State → Prop) (free : Addr → Prop) : Prop :=
  ∀ T : State, T.heap = H → Stand p l e R s m args below meth c T locs cells slots →
    (∃ (v : Option Value) (st₀ t T' : State) (L : List Loc), st₀.heap = H ∧ Stand p l e R s m args below meth c T' (locs ++ L) (cells + mc) (slots + ms) ∧ (∀ q ∈ L, free q.base) ∧ T'.heap = t.heap ∧ T'.vm = t.vm ∧ Qa st₀ (.returned v) t ∧
      Goes p e below T g T' { g with pc := g.pc + 3, stack := v.toList ++ rest }) ∨
    (∃ (q : Addr) (st₀ t T' : State) (L : List Loc) (E : String) (ce : Cell), st₀.heap = H ∧ Stand p l e R s m args below meth c T' (locs ++ L) (cells + mc) (slots + ms) ∧ (∀ z ∈ L, free z.base) ∧ T'.heap = t.heap ∧ T'.vm = t.vm ∧ XC E st₀ t ∧ t.heap[q]? = some ce ∧ ce.vm = .none ∧ s.vm.findClass E = some ce.cls ∧
      Steps p.tables e below (T.setTop g) ((T'.setTop { g with stack := rest }).pushFrame (.throwing q)))
def vx_X {S : Type} (px : S → Prop) (B : String → S → State → Prop) (A : Nat → Prop) : String → State → State → Prop := fun E st t => ∃ u : S, px u ∧ B E u t ∧ va_F A st t
section Runs
variable {p : Program} {l : Launch} {e : Env} {R : Room} {s : State} {m : MethodId} {args : Array Value} {below : List Frame} {meth : Method} {c : Code} {H : Heap} {locs : List Loc} {cells slots : Nat}
variable {y : MethodName} {bytes cc : ByteArray} {maxL nL mc ms n index : Nat} {ret : Option FieldType} {ws : List Cond} {rm : Room} {Pc : Array Value → State → Prop} {Qc : Array Value → State → Outcome → State → Prop} {XC : String → State → State → Prop} {free : Addr → Prop} {Ts : List Cond} {own C : String} {b : Addr} {As rest : List Value} {g : JFrame}
theorem vx_callBack (cb : CallB R s args own index y bytes maxL ret ws rm mc ms n) (hM : vx_Met l y ws rm Pc Qc XC mc ms free) (hbl : FrameBlind Pc) : vx_Back l R p e below s args y 3 8 (PreOf R mc ms Pc) (PostOf Qc mc ms free) (vx_Post XC mc ms free) := by
  obtain ⟨hrc, hrs, hfr, hlo, hws, hcw, -, hini, -⟩ := cb
  exact vx_back (bytes := bytes) (maxL := maxL) (ret := ret) hM hbl hrc hrs hfr hlo hws hcw (fun a' U hW => word_at hW (Or.inl (by first | rfl | simp [Cond.onTables, Cond.keeps, Cond.steady])) hini)
theorem vx_runV (S : CallFix p m c cc nL s args Ts own) (hM : vx_Met l y ws rm Pc Qc XC mc ms free) (cw : CallW R s args own C index y bytes maxL ret ws rm mc ms n) (hp : PreV s H C b Pc As)
    (hg : g.method = m) (hn : As.length = n) (hsize : g.locals.size = nL) (hstack : g.stack = As.reverse ++ .ref b :: rest) (hW : 2 * g.monitorRoom + (rest.map fun v => v.category).sum ≤ 8) (hdg : decode cc g.pc = .ok (.invokevirtual index, 3)) (hf : cells + mc ≤ R.cells ∧ slots + ms ≤ R.slots) :
    vx_Run p l e R s m args below meth c H locs cells slots mc ms g rest (Qc (Value.ref b :: As).toArray) XC free := by
  have hK : vx_Back l R p e below s args y 3 8 (PreOf R mc ms Pc) (PostOf Qc mc ms free) (vx_Post XC mc ms free) := vx_callBack cw.1 hM hp.1
  obtain ⟨⟨-, -, -, -, -, -, hcode, -, hy, hlen, hl⟩, hin, hse⟩ := cw
  obtain ⟨hx, hb, hml, ho, -⟩ := S
  obtain ⟨-, ⟨cellB, hcB, hoB, hclB⟩, hPc⟩ := hp
  intro T hT X
  rcases vx_callV X hx (C := C) (bytes := bytes) (maxL := maxL) (ret := ret) ho hl hin hse hcode hy hK (by rw [hT]; exact hcB) hoB hclB hg (hsize.trans hml.symm) (argsL := As) (rest := rest) (fun sig h => hn.trans (hlen sig h)) hstack hW (by rw [hb]; exact hdg)
    (fun vm₁ hW₁ => ⟨hf.1, hf.2, hPc (T.setVm vm₁) hT hW₁⟩) with ⟨v, vm₁, ⟨U', l2, c2, s2⟩, hW₁, X', ⟨g', mk, t, L, e1, e2, hq, h1, hL, h2, h3⟩, st⟩ | ⟨q, vm₁, ⟨U', l2, c2, s2⟩, hW₁, X', ⟨g', mk, t, L, E, ce, e1, e2, hq, hce, hcv, hcl, h1, hL, h2, h3⟩, st⟩
  · dsimp only [Pt.U, Pt.locs, Pt.cells, Pt.slots] at X' e1 e2 h1 h2 h3 st
    subst h1; subst h2; subst h3
    exact Or.inl ⟨v, (T.setVm vm₁).calling g' mk (Value.ref b :: As).toArray, t, U', L, hT, X', hL, e1, e2, hq, st⟩
  · dsimp only [Pt.U, Pt.locs, Pt.cells, Pt.slots] at X' e1 e2 h1 h2 h3 st hcl
    subst h1; subst h2; subst h3
    exact Or.inr ⟨q, (T.setVm vm₁).calling g' mk (Value.ref b :: As).toArray, t, U', L, E, ce, hT, X', hL, e1, e2, hq, hce, hcv, vx_cls hW₁ hcl, st⟩
theorem vx_runS (S : CallFix p m c cc nL s args Ts own) (hM : vx_Met l y ws rm Pc Qc XC mc ms free) (cw : CallB R s args own index y bytes maxL ret ws rm mc ms n ∧ (Cond.static y).before args s = true) (hp : PreS s H Pc As)
    (hg : g.method = m) (hn : As.length = n) (hsize : g.locals.size = nL) (hstack : g.stack = As.reverse ++ rest) (hW : 2 * g.monitorRoom + (rest.map fun v => v.category).sum ≤ 8) (hdg : decode cc g.pc = .ok (.invokestatic index, 3)) (hf : cells + mc ≤ R.cells ∧ slots + ms ≤ R.slots) :
    vx_Run p l e R s m args below meth c H locs cells slots mc ms g rest (Qc As.toArray) XC free := by
  have hK : vx_Back l R p e below s args y 3 8 (PreOf R mc ms Pc) (PostOf Qc mc ms free) (vx_Post XC mc ms free) := vx_callBack cw.1 hM hp.1
  obtain ⟨⟨-, -, -, -, -, -, hcode, hini, hy, hlen, hl⟩, hstt⟩ := cw
  obtain ⟨hx, hb, hml, ho, -⟩ := S
  intro T hT X
  rcases vx_callS X hx (bytes := bytes) (maxL := maxL) (ret := ret) ho hl hstt hini hcode hy hK hg (hsize.trans hml.symm) (argsL := As) (rest := rest) (fun sig h => hn.trans (hlen sig h)) hstack hW (by rw [hb]; exact hdg)
    (fun vm₁ hW₁ => ⟨hf.1, hf.2, hp.2 (T.setVm vm₁) hT hW₁⟩) with ⟨v, vm₁, ⟨U', l2, c2, s2⟩, hW₁, X', ⟨g', mk, t, L, e1, e2, hq, h1, hL, h2, h3⟩, st⟩ | ⟨q, vm₁, ⟨U', l2, c2, s2⟩, hW₁, X', ⟨g', mk, t, L, E, ce, e1, e2, hq, hce, hcv, hcl, h1, hL, h2, h3⟩, st⟩
  · dsimp only [Pt.U, Pt.locs, Pt.cells, Pt.slots] at X' e1 e2 h1 h2 h3 st
    subst h1; subst h2; subst h3
    exact Or.inl ⟨v, (T.setVm vm₁).calling g' mk As.toArray, t, U', L, hT, X', hL, e1, e2, hq, st⟩
  · dsimp only [Pt.U, Pt.locs, Pt.cells, Pt.slots] at X' e1 e2 h1 h2 h3 st hcl
    subst h1; subst h2; subst h3
    exact Or.inr ⟨q, (T.setVm vm₁).calling g' mk As.toArray, t, U', L, E, ce, hT, X', hL, e1, e2, hq, hce, hcv, vx_cls hW₁ hcl, st⟩
end Runs
section Rows
variable {p : Program} {l : Launch} {e : Env} {R : Room} {s : State} {m : MethodId} {args : Array Value} {below : List Frame} {meth : Method} {c : Code} {H : Heap} {locs : List Loc} {cells slots : Nat} {Q : State → Prop}
variable {mc ms : Nat} {free : Addr → Prop} {A0 A1 : Nat → Prop} {H0 : Heap} {a : Array Value} {pc : Nat} {ls : Array Slot} {st0 rest : List Value}
theorem vx_keep {st₀ t T' : State} {L : List Loc} (h0 : st₀.heap = H) (e1 : T'.heap = t.heap) (hS : va_S A0 H0 H locs) (hA : ∀ q, q < H.size → A1 q → A0 q) (hf : ∀ q, free q → A0 q) (hL : ∀ q ∈ L, free q.base) (hF : va_F A1 st₀ t) :
    H.size ≤ T'.heap.size ∧ (∀ q : Nat, q < H.size → ¬ A1 q → T'.heap[q]? = H[q]?) ∧ va_S A0 H0 T'.heap (locs ++ L) := by
  obtain ⟨hz, hk⟩ := hF
  rw [h0] at hz hk
  exact ⟨by rw [e1]; exact hz, fun q h1 h2 => by rw [e1]; exact hk q h1 h2,
    ⟨Nat.le_trans hS.1 (by rw [e1]; exact hz), fun q h1 h2 => by rw [e1, hk q (Nat.lt_of_lt_of_le h1 hS.1) (fun z => h2 (hA q (Nat.lt_of_lt_of_le h1 hS.1) z))]; exact hS.2.1 q h1 h2, fun q hq => by
      rcases List.mem_append.mp hq with h | h
      · exact hS.2.2 q h
      · exact hf _ (hL q h)⟩⟩
theorem vx_calli {S SX : Type} {post : Int32 → S → Prop} {px : SX → Prop} {B : S → State → Prop} {BX : String → SX → State → Prop} {AX : Nat → Prop} (hr : vx_Run p l e R s m args below meth c H locs cells slots mc ms (F0 m pc ls st0) rest (va_Qi post B A1 a) (vx_X px BX AX) free) (hS : va_S A0 H0 H locs) (hA : ∀ q, q < H.size → A1 q → A0 q) (hf : ∀ q, free q → A0 q) (hAX : ∀ q, q < H.size → AX q → A0 q)
    (kx : ∀ (E : String) (ce : Cell) (q9 : Addr) (u : SX) (t : State) (H1 : Heap) (locs1 : List Loc), t.heap = H1 → s.vm.Alike t.vm → px u → BX E u t → H.size ≤ H1.size → (∀ q : Nat, q < H.size → ¬ AX q → H1[q]? = H[q]?) → va_S A0 H0 H1 locs1 → H1[q9]? = some ce → ce.vm = .none → s.vm.findClass E = some ce.cls → vx_W p l e R s m args below meth c H1 locs1 (cells + mc) (slots + ms) Q (F0 m pc ls rest) q9)
    (kk : ∀ (r : Int32) (u : S) (t : State) (H1 : Heap) (locs1 : List Loc), t.heap = H1 → s.vm.Alike t.vm → post r u → B u t → H.size ≤ H1.size → (∀ q : Nat, q < H.size → ¬ A1 q → H1[q]? = H[q]?) → va_S A0 H0 H1 locs1 → W p l e R s m args below meth c H1 locs1 (cells + mc) (slots + ms) Q (F0 m (pc + 3) ls (.int r :: rest))) : W p l e R s m args below meth c H locs cells slots Q (F0 m pc ls st0) := by
  intro T hT X
  rcases hr T hT X with ⟨v, st₀, t, T', L, h0, X', hL, e1, e2, ⟨⟨r, u, hv, hp, hb⟩, hF⟩, st⟩ | ⟨q, st₀, t, T', L, E, ce, h0, X', hL, e1, e2, ⟨u, hp, hb, hF⟩, hce, hcv, hcl, st⟩
  · cases hv
    obtain ⟨k1, k2, k3⟩ := vx_keep h0 e1 hS hA hf hL hF
    obtain ⟨t2, a1, b1⟩ := kk r u t T'.heap (locs ++ L) e1.symm (by rw [← e2]; exact X'.warmed.alike) hp hb k1 k2 k3 T' rfl X'
    exact ⟨t2, st t2 a1, b1⟩
  · obtain ⟨k1, k2, k3⟩ := vx_keep h0 e1 hS hAX hf hL hF
    obtain ⟨t2, a1, b1⟩ := kx E ce q u t T'.heap (locs ++ L) e1.symm (by rw [← e2]; exact X'.warmed.alike) hp hb k1 k2 k3 (by rw [e1]; exact hce) hcv hcl T' rfl X'
    exact ⟨t2, st.trans a1, b1⟩
theorem vx_calll {S SX : Type} {post : Int64 → S → Prop} {px : SX → Prop} {B : S → State → Prop} {BX : String → SX → State → Prop} {AX : Nat → Prop} (hr : vx_Run p l e R s m args below meth c H locs cells slots mc ms (F0 m pc ls st0) rest (va_Ql post B A1 a) (vx_X px BX AX) free) (hS : va_S A0 H0 H locs) (hA : ∀ q, q < H.size → A1 q → A0 q) (hf : ∀ q, free q → A0 q) (hAX : ∀ q, q < H.size → AX q → A0 q)
    (kx : ∀ (E : String) (ce : Cell) (q9 : Addr) (u : SX) (t : State) (H1 : Heap) (locs1 : List Loc), t.heap = H1 → s.vm.Alike t.vm → px u → BX E u t → H.size ≤ H1.size → (∀ q : Nat, q < H.size → ¬ AX q → H1[q]? = H[q]?) → va_S A0 H0 H1 locs1 → H1[q9]? = some ce → ce.vm = .none → s.vm.findClass E = some ce.cls → vx_W p l e R s m args below meth c H1 locs1 (cells + mc) (slots + ms) Q (F0 m pc ls rest) q9)
    (kk : ∀ (r : Int64) (u : S) (t : State) (H1 : Heap) (locs1 : List Loc), t.heap = H1 → s.vm.Alike t.vm → post r u → B u t → H.size ≤ H1.size → (∀ q : Nat, q < H.size → ¬ A1 q → H1[q]? = H[q]?) → va_S A0 H0 H1 locs1 → W p l e R s m args below meth c H1 locs1 (cells + mc) (slots + ms) Q (F0 m (pc + 3) ls (.long r :: rest))) : W p l e R s m args below meth c H locs cells slots Q (F0 m pc ls st0) := by
  intro T hT X
  rcases hr T hT X with ⟨v, st₀, t, T', L, h0, X', hL, e1, e2, ⟨⟨r, u, hv, hp, hb⟩, hF⟩, st⟩ | ⟨q, st₀, t, T', L, E, ce, h0, X', hL, e1, e2, ⟨u, hp, hb, hF⟩, hce, hcv, hcl, st⟩
  · cases hv
    obtain ⟨k1, k2, k3⟩ := vx_keep h0 e1 hS hA hf hL hF
    obtain ⟨t2, a1, b1⟩ := kk r u t T'.heap (locs ++ L) e1.symm (by rw [← e2]; exact X'.warmed.alike) hp hb k1 k2 k3 T' rfl X'
    exact ⟨t2, st t2 a1, b1⟩
  · obtain ⟨k1, k2, k3⟩ := vx_keep h0 e1 hS hAX hf hL hF
    obtain ⟨t2, a1, b1⟩ := kx E ce q u t T'.heap (locs ++ L) e1.symm (by rw [← e2]; exact X'.warmed.alike) hp hb k1 k2 k3 (by rw [e1]; exact hce) hcv hcl T' rfl X'
    exact ⟨t2, st.trans a1, b1⟩
theorem vx_callf {S SX : Type} {post : UInt32 → S → Prop} {px : SX → Prop} {B : S → State → Prop} {BX : String → SX → State → Prop} {AX : Nat → Prop} (hr : vx_Run p l e R s m args below meth c H locs cells slots mc ms (F0 m pc ls st0) rest (va_Qf post B A1 a) (vx_X px BX AX) free) (hS : va_S A0 H0 H locs) (hA : ∀ q, q < H.size → A1 q → A0 q) (hf : ∀ q, free q → A0 q) (hAX : ∀ q, q < H.size → AX q → A0 q)
    (kx : ∀ (E : String) (ce : Cell) (q9 : Addr) (u : SX) (t : State) (H1 : Heap) (locs1 : List Loc), t.heap = H1 → s.vm.Alike t.vm → px u → BX E u t → H.size ≤ H1.size → (∀ q : Nat, q < H.size → ¬ AX q → H1[q]? = H[q]?) → va_S A0 H0 H1 locs1 → H1[q9]? = some ce → ce.vm = .none → s.vm.findClass E = some ce.cls → vx_W p l e R s m args below meth c H1 locs1 (cells + mc) (slots + ms) Q (F0 m pc ls rest) q9)
    (kk : ∀ (r : UInt32) (u : S) (t : State) (H1 : Heap) (locs1 : List Loc), t.heap = H1 → s.vm.Alike t.vm → post r u → B u t → H.size ≤ H1.size → (∀ q : Nat, q < H.size → ¬ A1 q → H1[q]? = H[q]?) → va_S A0 H0 H1 locs1 → W p l e R s m args below meth c H1 locs1 (cells + mc) (slots + ms) Q (F0 m (pc + 3) ls (.float r :: rest))) : W p l e R s m args below meth c H locs cells slots Q (F0 m pc ls st0) := by
  intro T hT X
  rcases hr T hT X with ⟨v, st₀, t, T', L, h0, X', hL, e1, e2, ⟨⟨r, u, hv, hp, hb⟩, hF⟩, st⟩ | ⟨q, st₀, t, T', L, E, ce, h0, X', hL, e1, e2, ⟨u, hp, hb, hF⟩, hce, hcv, hcl, st⟩
  · cases hv
    obtain ⟨k1, k2, k3⟩ := vx_keep h0 e1 hS hA hf hL hF
    obtain ⟨t2, a1, b1⟩ := kk r u t T'.heap (locs ++ L) e1.symm (by rw [← e2]; exact X'.warmed.alike) hp hb k1 k2 k3 T' rfl X'
    exact ⟨t2, st t2 a1, b1⟩
  · obtain ⟨k1, k2, k3⟩ := vx_keep h0 e1 hS hAX hf hL hF
    obtain ⟨t2, a1, b1⟩ := kx E ce q u t T'.heap (locs ++ L) e1.symm (by rw [← e2]; exact X'.warmed.alike) hp hb k1 k2 k3 (by rw [e1]; exact hce) hcv hcl T' rfl X'
    exact ⟨t2, st.trans a1, b1⟩
theorem vx_calld {S SX : Type} {post : UInt64 → S → Prop} {px : SX → Prop} {B : S → State → Prop} {BX : String → SX → State → Prop} {AX : Nat → Prop} (hr : vx_Run p l e R s m args below meth c H locs cells slots mc ms (F0 m pc ls st0) rest (va_Qd post B A1 a) (vx_X px BX AX) free) (hS : va_S A0 H0 H locs) (hA : ∀ q, q < H.size → A1 q → A0 q) (hf : ∀ q, free q → A0 q) (hAX : ∀ q, q < H.size → AX q → A0 q)
    (kx : ∀ (E : String) (ce : Cell) (q9 : Addr) (u : SX) (t : State) (H1 : Heap) (locs1 : List Loc), t.heap = H1 → s.vm.Alike t.vm → px u → BX E u t → H.size ≤ H1.size → (∀ q : Nat, q < H.size → ¬ AX q → H1[q]? = H[q]?) → va_S A0 H0 H1 locs1 → H1[q9]? = some ce → ce.vm = .none → s.vm.findClass E = some ce.cls → vx_W p l e R s m args below meth c H1 locs1 (cells + mc) (slots + ms) Q (F0 m pc ls rest) q9)
    (kk : ∀ (r : UInt64) (u : S) (t : State) (H1 : Heap) (locs1 : List Loc), t.heap = H1 → s.vm.Alike t.vm → post r u → B u t → H.size ≤ H1.size → (∀ q : Nat, q < H.size → ¬ A1 q → H1[q]? = H[q]?) → va_S A0 H0 H1 locs1 → W p l e R s m args below meth c H1 locs1 (cells + mc) (slots + ms) Q (F0 m (pc + 3) ls (.double r :: rest))) : W p l e R s m args below meth c H locs cells slots Q (F0 m pc ls st0) := by
  intro T hT X
  rcases hr T hT X with ⟨v, st₀, t, T', L, h0, X', hL, e1, e2, ⟨⟨r, u, hv, hp, hb⟩, hF⟩, st⟩ | ⟨q, st₀, t, T', L, E, ce, h0, X', hL, e1, e2, ⟨u, hp, hb, hF⟩, hce, hcv, hcl, st⟩
  · cases hv
    obtain ⟨k1, k2, k3⟩ := vx_keep h0 e1 hS hA hf hL hF
    obtain ⟨t2, a1, b1⟩ := kk r u t T'.heap (locs ++ L) e1.symm (by rw [← e2]; exact X'.warmed.alike) hp hb k1 k2 k3 T' rfl X'
    exact ⟨t2, st t2 a1, b1⟩
  · obtain ⟨k1, k2, k3⟩ := vx_keep h0 e1 hS hAX hf hL hF
    obtain ⟨t2, a1, b1⟩ := kx E ce q u t T'.heap (locs ++ L) e1.symm (by rw [← e2]; exact X'.warmed.alike) hp hb k1 k2 k3 (by rw [e1]; exact hce) hcv hcl T' rfl X'
    exact ⟨t2, st.trans a1, b1⟩
theorem vx_callv {S SX : Type} {post : S → Prop} {px : SX → Prop} {B : S → State → Prop} {BX : String → SX → State → Prop} {AX : Nat → Prop} (hr : vx_Run p l e R s m args below meth c H locs cells slots mc ms (F0 m pc ls st0) rest (va_Qv post B A1 a) (vx_X px BX AX) free) (hS : va_S A0 H0 H locs) (hA : ∀ q, q < H.size → A1 q → A0 q) (hf : ∀ q, free q → A0 q) (hAX : ∀ q, q < H.size → AX q → A0 q)
    (kx : ∀ (E : String) (ce : Cell) (q9 : Addr) (u : SX) (t : State) (H1 : Heap) (locs1 : List Loc), t.heap = H1 → s.vm.Alike t.vm → px u → BX E u t → H.size ≤ H1.size → (∀ q : Nat, q < H.size → ¬ AX q → H1[q]? = H[q]?) → va_S A0 H0 H1 locs1 → H1[q9]? = some ce → ce.vm = .none → s.vm.findClass E = some ce.cls → vx_W p l e R s m args below meth c H1 locs1 (cells + mc) (slots + ms) Q (F0 m pc ls rest) q9)
    (kk : ∀ (u : S) (t : State) (H1 : Heap) (locs1 : List Loc), t.heap = H1 → s.vm.Alike t.vm → post u → B u t → H.size ≤ H1.size → (∀ q : Nat, q < H.size → ¬ A1 q → H1[q]? = H[q]?) → va_S A0 H0 H1 locs1 → W p l e R s m args below meth c H1 locs1 (cells + mc) (slots + ms) Q (F0 m (pc + 3) ls (rest))) : W p l e R s m args below meth c H locs cells slots Q (F0 m pc ls st0) := by
  intro T hT X
  rcases hr T hT X with ⟨v, st₀, t, T', L, h0, X', hL, e1, e2, ⟨⟨u, hv, hp, hb⟩, hF⟩, st⟩ | ⟨q, st₀, t, T', L, E, ce, h0, X', hL, e1, e2, ⟨u, hp, hb, hF⟩, hce, hcv, hcl, st⟩
  · cases hv
    obtain ⟨k1, k2, k3⟩ := vx_keep h0 e1 hS hA hf hL hF
    obtain ⟨t2, a1, b1⟩ := kk u t T'.heap (locs ++ L) e1.symm (by rw [← e2]; exact X'.warmed.alike) hp hb k1 k2 k3 T' rfl X'
    exact ⟨t2, st t2 a1, b1⟩
  · obtain ⟨k1, k2, k3⟩ := vx_keep h0 e1 hS hAX hf hL hF
    obtain ⟨t2, a1, b1⟩ := kx E ce q u t T'.heap (locs ++ L) e1.symm (by rw [← e2]; exact X'.warmed.alike) hp hb k1 k2 k3 (by rw [e1]; exact hce) hcv hcl T' rfl X'
    exact ⟨t2, st.trans a1, b1⟩
/-- caught by the row x of this method's table; the rows ahead don't take it -/
theorem vx_catch {own name : String} {E : String} {ce : Cell} {q : Addr} (hown : s.vm.findClass own = some m.cls) (pre : List ExceptionTableEntry) (x : ExceptionTableEntry) (suf : List ExceptionTableEntry) (hsplit : c.exceptionTable.toList = pre ++ x :: suf)
    (hpass : ∀ z ∈ pre, covers z pc = false ∨ (z.catchType ≠ 0 ∧ ∃ nm : String, (Cond.classLink own z.catchType nm).before args s = true ∧ va_Nc E nm s)) (hx : covers x pc = true) (h0 : x.catchType ≠ 0)
    (hlink : (Cond.classLink own x.catchType name).before args s = true) (hcast : (Cond.castable E name).before args s = true) (hcell : H[q]? = some ce) (hv : ce.vm = .none) (hcl : s.vm.findClass E = some ce.cls)
    (kk : W p l e R s m args below meth c H locs cells slots Q (F0 m x.handlerPc ls [.ref q])) : vx_W p l e R s m args below meth c H locs cells slots Q (F0 m pc ls rest) q := by
  intro T hT X
  have hpl : e.platform.magicAccessors = ({} : Platform).magicAccessors := by rw [X.admits.platform]
  obtain ⟨c3, c4, hc3, hc4, hasg⟩ := Cond.castable_spec hcast
  cases Option.some.inj (hc3.symm.trans hcl)
  obtain ⟨c5, hc5, hcl5⟩ := Cond.classLink_spec hown hlink e.platform hpl
  cases Option.some.inj (hc4.symm.trans hc5)
  obtain ⟨vm', X', st⟩ := X.thenCaughtThrough q (g := F0 m pc ls rest) rfl (Steps.refl _) (by rw [hT]; exact hcell) (by rw [hv]; rfl) (by obtain ⟨k9, h9, -⟩ := Vm.findClass_spec hcl; exact ⟨k9, h9⟩) pre x suf hsplit
    (fun z hz => by
      rcases hpass z hz with h | ⟨hz0, nm, hl1, hn1⟩
      · exact Or.inl h
      · obtain ⟨c6, hc6, hcl6⟩ := Cond.classLink_spec hown hl1 e.platform hpl
        obtain ⟨a8, b8, h1, h2, h3⟩ := hn1
        cases Option.some.inj (h1.symm.trans hcl)
        cases Option.some.inj (h2.symm.trans hc6)
        exact Or.inr ⟨hz0, _, hcl6, h3⟩) hx (Or.inr ⟨h0, c4, hcl5, hasg⟩)
  obtain ⟨t, a1, b1⟩ := kk (T.setVm vm') hT X'
  exact ⟨t, st.trans a1, b1⟩
end Rows
section Ends
variable {p : Program} {l : Launch} {e : Env} {R : Room} {s : State} {m : MethodId} {args : Array Value} {below : List Frame} {meth : Method} {c : Code} {H : Heap} {locs : List Loc} {cells slots : Nat} {Q : State → Prop}
variable {mc ms : Nat} {free : Addr → Prop} {A0 A1 : Nat → Prop} {H0 : Heap} {a : Array Value} {ls : Array Slot} {st0 rest : List Value}
variable {Qc : Array Value → State → Outcome → State → Prop} {XC : String → State → State → Prop}
/-- what a body that may throw owes at its end -/
def vx_MQ (below : List Frame) (Qc : Array Value → State → Outcome → State → Prop) (XC : String → State → State → Prop) (a : Array Value) (s : State) (mc ms : Nat) (free : Addr → Prop) : State → Prop := fun t =>
  ∃ o, t.status = .running ∧ Ended t below o ∧ vx_Q Qc XC mc ms free a s o t
theorem vx_ret {g : JFrame} {mc ms : Nat} (k : W p l e R s m args below meth c H locs cells slots (MQ below Qc args s mc ms free) g) : W p l e R s m args below meth c H locs cells slots (vx_MQ below Qc XC args s mc ms free) g := by
  intro T hT X
  obtain ⟨t, a1, o, b1, b2, b3, b4⟩ := k T hT X
  exact ⟨t, a1, o, b1, b2, Or.inl ⟨b3, b4⟩⟩
/-- not caught here: it goes on to the caller -/
theorem vx_widen {g : JFrame} {q : Addr} {k n : Nat} (h1 : cells ≤ k) (h2 : slots ≤ n) (kk : vx_W p l e R s m args below meth c H locs k n Q g q) : vx_W p l e R s m args below meth c H locs cells slots Q g q := fun T hT X => kk T hT (stand_widen X h1 h2)
theorem vx_out {pc : Nat} {E : String} {ce : Cell} {q : Addr} {mc ms : Nat} (hout : ∀ x ∈ c.exceptionTable.toList, covers x pc = false) (hlocks : meth.locks = false) (hcell : H[q]? = some ce) (hv : ce.vm = .none) (hcl : s.vm.findClass E = some ce.cls)
    (hx : ∀ t : State, t.heap = H → s.vm.Alike t.vm → XC E s t) (hf : ∀ z ∈ locs, free z.base) (hc : cells ≤ mc) (hs : slots ≤ ms) :
    vx_W p l e R s m args below meth c H locs cells slots (vx_MQ below Qc XC args s mc ms free) (F0 m pc ls rest) q := by
  intro T hT X
  obtain ⟨st1, hrun, hend, hW, hsm⟩ := X.leaveThrown q (g := F0 m pc ls rest) rfl rfl rfl hout hlocks
  have hcell9 : (T.setFrames (.throwing q :: below)).heap[q]? = some ce := by
    show T.heap[q]? = some ce
    rw [hT]; exact hcell
  exact ⟨_, st1, .threw q, hrun, hend, Or.inr ⟨q, rfl, E, ce, locs, hx _ hT hW.alike, hcell9, hv, hcl, hW, hsm.mono hc hs, hf⟩⟩
theorem vx_frame {U : State} {k n : Nat} (h : s.sameButNew ({ U with vm := s.vm } : State) locs k n) : s.heap.size ≤ U.heap.size ∧ ∀ q : Nat, q < s.heap.size → (∀ z ∈ locs, z.base ≠ q) → U.heap[q]? = s.heap[q]? := by
  obtain ⟨-, h2, -, -, -, h6⟩ := h
  refine ⟨h2, fun q hq hz => ?_⟩
  obtain ⟨c9, e1, e2, e3, e4⟩ := h6 q _ (Array.getElem?_eq_getElem hq)
  have hs : c9.slots = (s.heap[q]).slots := Array.ext_getElem? fun i => e4 i fun hm => hz _ hm rfl
  have h9 : c9 = s.heap[q] := by
    rw [hs] at e2
    exact e2
  have e5 : U.heap[q]? = some c9 := e1
  rw [e5, h9, Array.getElem?_eq_getElem hq]
/-- the words of a throw but the four that speak of the heap -/
def vx_no (w : Cond) : Bool := decide (w ≠ .isRef (.static Bundle.tN "UNASSIGNED_STACK" Bundle.steD)) && decide (w ≠ .isRef (.static Bundle.tN "SUPPRESSED_SENTINEL" Bundle.listD)) && decide (w ≠ .laysStatic Bundle.tN "UNASSIGNED_STACK" Bundle.steD) && decide (w ≠ .laysStatic Bundle.tN "SUPPRESSED_SENTINEL" Bundle.listD)
def vx_at0 (own : String) (ic : Nat) (X : String) (names : List String) : List Cond := (Bundle.ownAtoms0 own ic X names).filter vx_no
def vx_atS (own : String) (ic : Nat) (X : String) (names : List String) : List Cond := (Bundle.ownAtoms own ic X names).filter vx_no
/-- a word that the tables alone decide, or a good one -/
def vx_ot (w : Cond) : Bool := w.onTables || goodWord w
theorem vx_ot_at {args a' : Array Value} {s U : State} {w : Cond} (hW : s.WarmedH U.vm) (hvm : s.vm = U.vm) (hg : vx_ot w = true) (h : w.before args s = true) : w.before a' U = true := by
  simp only [vx_ot, Bool.or_eq_true] at hg
  rcases hg with hg | hg
  · exact va_tabs hg hvm h
  · exact word_at hW (good_of_word hg) h
/-- a list's words: the good ones out of the method's own list, the others by premises of their own -/
theorem vx_hat {args : Array Value} {s : State} {L B : List Cond} (h1 : ∀ w ∈ L.filter goodWord, w.before args s = true) (h2 : ∀ w ∈ L.filter (fun w => !goodWord w), w ∈ B) (h3 : ∀ w ∈ B, w.before args s = true) : ∀ w ∈ L, w.before args s = true := by
  intro w hw
  by_cases g : goodWord w = true
  · exact h1 w (List.mem_filter.mpr ⟨hw, g⟩)
  · refine h3 w (h2 w (List.mem_filter.mpr ⟨hw, ?_⟩))
    show (!goodWord w) = true
    cases hgw : goodWord w
    · rfl
    · exact absurd hgw g
theorem vx_c {args : Array Value} {s : State} {w : Cond} {B : List Cond} (h : w.before args s = true) (t : ∀ w ∈ B, w.before args s = true) : ∀ w' ∈ w :: B, w'.before args s = true := fun w' h' => (List.mem_cons.mp h').elim (fun e => by rw [e]; exact h) (t w')
theorem vx_n {args : Array Value} {s : State} : ∀ w ∈ ([] : List Cond), w.before args s = true := fun _ h => nomatch h
theorem vx_own {args : Array Value} {s : State} {L : List Cond} (h1 : ∀ w ∈ L.filter vx_no, w.before args s = true)
    (hU : (Cond.isRef (.static Bundle.tN "UNASSIGNED_STACK" Bundle.steD)).before args s = true) (hN : (Cond.isRef (.static Bundle.tN "SUPPRESSED_SENTINEL" Bundle.listD)).before args s = true)
    (lU : (Cond.laysStatic Bundle.tN "UNASSIGNED_STACK" Bundle.steD).before args s = true) (lN : (Cond.laysStatic Bundle.tN "SUPPRESSED_SENTINEL" Bundle.listD).before args s = true) : ∀ w ∈ L, w.before args s = true := by
  intro w hw
  by_cases e1 : w = .isRef (.static Bundle.tN "UNASSIGNED_STACK" Bundle.steD)
  · rw [e1]; exact hU
  · by_cases e2 : w = .isRef (.static Bundle.tN "SUPPRESSED_SENTINEL" Bundle.listD)
    · rw [e2]; exact hN
    · by_cases e3 : w = .laysStatic Bundle.tN "UNASSIGNED_STACK" Bundle.steD
      · rw [e3]; exact lU
      · by_cases e4 : w = .laysStatic Bundle.tN "SUPPRESSED_SENTINEL" Bundle.listD
        · rw [e4]; exact lN
        · exact h1 w (List.mem_filter.mpr ⟨hw, by unfold vx_no; rw [decide_eq_true e1, decide_eq_true e2, decide_eq_true e3, decide_eq_true e4]; rfl⟩)
/-- where a static field lies, its class's statics cell in H -/
def vx_L (C n d : String) (A : Nat → Prop) (U : State) (H : Heap) : Prop := ∃ (c : ClassId) (k : Class) (i : Nat) (f : Field) (a : Nat) (cell : Cell), U.vm.findClass C = some c ∧ U.fieldFound? C n d = some (c, k, i, f) ∧ f.isStatic = true ∧ k.statics = some a ∧ H[a]? = some cell ∧ cell.vm.isStatics = true ∧ cell.cls = c ∧ f.slot < cell.slots.size ∧ k.staticTypes[f.slot]? = some f.type ∧ ¬ A a
theorem vx_L.moved {C n d : String} {A : Nat → Prop} {u U : State} {H : Heap} (hvm : u.vm.Alike U.vm) (h : vx_L C n d A u H) : vx_L C n d A U H := by
  obtain ⟨c, k, i, f, a, cell, h1, h2, h3, h4, h5, h6, h7, h8, h9, h10⟩ := h
  obtain ⟨k', hi', he⟩ := State.fieldFound?_setVm hvm h2
  exact ⟨c, k', i, f, a, cell, by rw [hvm.findClass]; exact h1, hi', h3, by rw [he]; exact h4, h5, h6, h7, h8, by rw [he]; exact h9, h10⟩
theorem vx_L.kept {C n d : String} {A : Nat → Prop} {U : State} {H H1 : Heap} (h : vx_L C n d A U H) (hq : ∀ a : Nat, a < H.size → ¬ A a → H1[a]? = H[a]?) : vx_L C n d A U H1 := by
  obtain ⟨c, k, i, f, a, cell, h1, h2, h3, h4, h5, h6, h7, h8, h9, h10⟩ := h
  exact ⟨c, k, i, f, a, cell, h1, h2, h3, h4, by rw [hq a (Array.getElem?_eq_some_iff.mp h5).1 h10]; exact h5, h6, h7, h8, h9, h10⟩
theorem vx_L.narrow {C n d : String} {A B : Nat → Prop} {U : State} {H : Heap} (h : vx_L C n d A U H) (hAB : ∀ q, B q → A q) : vx_L C n d B U H := by
  obtain ⟨c, k, i, f, a, cell, h1, h2, h3, h4, h5, h6, h7, h8, h9, h10⟩ := h
  exact ⟨c, k, i, f, a, cell, h1, h2, h3, h4, h5, h6, h7, h8, h9, fun z => h10 (hAB _ z)⟩
theorem vx_L.word {C n d : String} {A : Nat → Prop} {s : State} {args : Array Value} (h : vx_L C n d A s s.heap) : (Cond.laysStatic C n d).before args s = true := by
  obtain ⟨c, k, i, f, a, cell, h1, h2, h3, h4, h5, h6, h7, h8, h9, -⟩ := h
  show (Cond.laysStatic C n d).holds args s none s [] = true
  exact Cond.laysStatic_of h1 h2 h3 h4 h5 h6 h7 h8 h9
/-- .. and what it holds: null or some reference -/
def vx_Zq (C n d : String) (A : Nat → Prop) (U : State) (H : Heap) : Prop := va_Zq C n d A U H ∧ vx_L C n d A U H
theorem vx_Zq.moved {C n d : String} {A : Nat → Prop} {u U : State} {H : Heap} (hvm : u.vm.Alike U.vm) (h : vx_Zq C n d A u H) : vx_Zq C n d A U H := ⟨va_Zq.moved hvm h.1, vx_L.moved hvm h.2⟩
theorem vx_Zq.kept {C n d : String} {A : Nat → Prop} {U : State} {H H1 : Heap} (h : vx_Zq C n d A U H) (hq : ∀ a : Nat, a < H.size → ¬ A a → H1[a]? = H[a]?) : vx_Zq C n d A U H1 := ⟨va_Zq.kept h.1 hq, vx_L.kept h.2 hq⟩
theorem vx_Zq.narrow {C n d : String} {A B : Nat → Prop} {U : State} {H : Heap} (h : vx_Zq C n d A U H) (hAB : ∀ q, B q → A q) : vx_Zq C n d B U H := ⟨va_Zq.narrow h.1 hAB, vx_L.narrow h.2 hAB⟩
theorem vx_Zqof {args : Array Value} {s : State} {C n d : String} {A : Nat → Prop} (hl : (Cond.laysStatic C n d).before args s = true) (hini : (Cond.initialized C).before args s = true) (h : (Cond.isRef (.static C n d)).before args s = true) (hA : ∀ a : Nat, a < s.heap.size → ¬ A a) : vx_Zq C n d A s s.heap := by
  refine ⟨va_Zqof hl hini h hA, ?_⟩
  obtain ⟨c, k, i, f, a, cell, h1, h2, h3, h4, h5, h6, h7, h8, h9⟩ := Cond.laysStatic_spec hl
  exact ⟨c, k, i, f, a, cell, h1, h2, h3, h4, h5, h6, h7, h8, h9, hA a (Array.getElem?_eq_some_iff.mp h5).1⟩
theorem vx_isRef {C n d : String} {v : Value} {A : Nat → Prop} {s : State} {args : Array Value} (h : va_Z C n d v A s s.heap) (hv : v.isRef = true) : (Cond.isRef (.static C n d)).before args s = true := by
  obtain ⟨cf, kf, fi, f, a, cell, h1, h2, h3, h4, h5, h6, h7, -⟩ := h
  have he : (Term.static C n d).eval args s none [] s = some v := by
    simp [Term.eval, State.fieldNamed?, h1, h2, h4, h5, h6, h7]
  simp only [Cond.before, Cond.holds, Cond.value, he]
  cases v <;> simp_all [Value.isRef]
theorem vx_isRefq {C n d : String} {A : Nat → Prop} {s : State} {args : Array Value} (h : va_Zq C n d A s s.heap) : (Cond.isRef (.static C n d)).before args s = true := by
  rcases h with h | ⟨t, h⟩
  · exact vx_isRef h rfl
  · exact vx_isRef h rfl
/-- the same frame, seen from here: as if the method were called anew in this heap -/
theorem vx_rebase {T : State} (X : Stand p l e R s m args below meth c T locs cells slots) {R' : Room} (hf : R'.frames ≤ R.frames) (hl : R'.locals ≤ R.locals) (hc : cells + R'.cells ≤ R.cells) (hs : slots + R'.slots ≤ R.slots) :
    Stand p l e R' ((T.setVm s.vm).setFrames (.invoking m args :: below)) m args below meth c T [] 0 0 := by
  have htop : (T.setVm s.vm).topJava?.isSome := X.here.top
  have hF : ((T.setVm s.vm).setFrames (.invoking m args :: below)).frames = .invoking m args :: below := State.frames_setFrames _ (State.cur_lt_of_top htop)
  obtain ⟨g₀, hg0⟩ := Option.isSome_iff_exists.mp htop
  obtain ⟨r, hr⟩ := State.topJava?_eq_some.mp hg0
  have hl9 : e.platform.stackLimits (T.setVm s.vm).me = e.platform.stackLimits s.me := X.limits
  have hb9 : (T.setVm s.vm).me.stackBytes = s.me.stackBytes := X.bytes
  refine ⟨X.admits, X.cas, X.clock, hF, ?_, X.hears, X.method, X.code, X.here, X.tail, X.warmed, ?_, ?_, ?_⟩
  · have h := X.room
    have hU : ((T.setVm s.vm).setFrames (.invoking m args :: below)).localsInUse = s.localsInUse := by
      rw [State.localsInUse_invoking hF (meth := meth) (c := c) X.method X.code, State.localsInUse_invoking X.frames X.method X.code]
    simp only [State.hasRoom, Bool.and_eq_true, decide_eq_true_eq] at h ⊢
    obtain ⟨⟨⟨⟨h1, h2, h3, h4, h5, h6⟩, h7⟩, h8⟩, h9⟩ := h
    rw [X.frames, List.length_cons] at h2 h3
    have q1 := X.heapSize
    have q2 := X.used
    simp only [hF, hU, List.length_cons, State.stackLimits_setFrames, State.stackBytes_setFrames, hl9, hb9]
    refine ⟨⟨⟨⟨by omega, by omega, by omega, by omega, by omega, h6⟩, ?_⟩, ?_⟩, X.book⟩
    · show T.heap.size + R'.cells ≤ e.platform.maxCells
      omega
    · show T.slotsUsed + R'.slots ≤ e.platform.maxSlots
      omega
  · rw [State.stackLimits_setFrames]; rfl
  · rw [State.stackBytes_setFrames]; rfl
  · refine ⟨?_, Nat.le_refl _, Nat.le_refl _, ?_, ?_, fun a c9 h9 => ⟨c9, h9, rfl, rfl, fun _ _ => rfl⟩⟩
    · obtain ⟨t, ht, -⟩ := State.frames_cons hr
      show T.setVm s.vm = { ((T.setVm s.vm).setFrames (.invoking m args :: below)).setFrames (T.setVm s.vm).frames with heap := T.heap, slotsUsed := T.slotsUsed }
      rw [State.setFrames_setFrames, State.setFrames_self ht]
      rfl
    · show T.slotsUsed = T.slotsUsed + ((T.heap.toList.drop T.heap.size).map (·.slots.size)).sum
      rw [List.drop_eq_nil_of_le (Nat.le_of_eq Array.length_toList)]
      rfl
    · show ((T.heap.toList.drop T.heap.size).map (·.slots.size)).sum ≤ 0
      rw [List.drop_eq_nil_of_le (Nat.le_of_eq Array.length_toList)]
      exact Nat.le_refl _
/-- 'throw new E()': new; dup; invokespecial; athrow -/
theorem vx_throw0 {cc : ByteArray} {pc : Nat} (hexec : p.tables.exec = Jvm.exec) (hb : c.code = cc) (hl : l.stackTraces = false) {own cls : String} {names : List String} {ik ic mc ms : Nat} {A : Nat → Prop}
    (hown : s.vm.findClass own = some m.cls) (hcls : Bundle.fit cls = true) (hnames : ∀ n ∈ names, Bundle.fit n = true)
    (hk : (Cond.classLink own ik cls).before args s = true) (hini : (Cond.initialized cls).before args s = true) (hat : ∀ w ∈ vx_at0 own ic cls names, w.before args s = true)
    (hgood : ∀ w ∈ Cond.classLink own ik cls :: Cond.initialized cls :: vx_at0 own ic cls names, vx_ot w = true)
    (hU : vx_Zq Bundle.tN "UNASSIGNED_STACK" Bundle.steD A s s.heap) (hN : vx_Zq Bundle.tN "SUPPRESSED_SENTINEL" Bundle.listD A s s.heap) (hS : va_S A s.heap H locs) (hsize : ls.size = c.maxLocals)
    (d0 : decode cc pc = .ok (.new ik, 3)) (d3 : decode cc (pc + 3) = .ok (.dup, 1)) (d4 : decode cc (pc + 4) = .ok (.invokespecial ic, 3)) (d7 : decode cc (pc + 7) = .ok (.athrow, 1))
    (hout : ∀ x ∈ c.exceptionTable.toList, covers x (pc + 7) = false)
    (hRframes : names.length + 3 < R.frames) (hRlocals : (rest.map fun v => v.category).sum + (13 * (names.length + 1) + 42) ≤ R.locals) (hRcells : cells + 1 ≤ R.cells) (hRslots : slots + 6 ≤ R.slots) (hlocks : meth.locks = false)
    (hx : ∀ t : State, s.vm.Alike t.vm → H.size ≤ t.heap.size → (∀ q : Nat, q < H.size → t.heap[q]? = H[q]?) → XC cls s t)
    (hf : ∀ z ∈ locs, free z.base) (hc : cells + 1 ≤ mc) (hs : slots + 6 ≤ ms) :
    W p l e R s m args below meth c H locs cells slots (vx_MQ below Qc XC args s mc ms free) (F0 m pc ls rest) := by
  intro T hT X
  have htr : e.platform.stackTraces = false := (show e.platform.stackTraces = l.stackTraces by rw [X.admits.platform]).trans hl
  have Y := vx_rebase X (R' := { frames := R.frames, locals := R.locals, cells := 1, slots := 6 }) (Nat.le_refl _) (Nat.le_refl _) hRcells hRslots
  obtain ⟨s', hA⟩ : ∃ z, z = (T.setVm s.vm).setFrames (.invoking m args :: below) := ⟨_, rfl⟩
  rw [← hA] at Y
  have hvm : s'.vm = s.vm := by rw [hA]; rfl
  have hhp : s'.heap = H := by rw [hA]; exact hT
  have hW0 : s.WarmedH s'.vm := by rw [hvm]; exact State.WarmedH.refl s
  have hat' : ∀ w ∈ vx_at0 own ic cls names, w.before args s' = true := fun w hw => vx_ot_at hW0 hvm.symm (hgood w (List.mem_cons_of_mem _ (List.mem_cons_of_mem _ hw))) (hat w hw)
  have hk' : (Cond.classLink own ik cls).before args s' = true := vx_ot_at hW0 hvm.symm (hgood _ List.mem_cons_self) hk
  have hini' : (Cond.initialized cls).before args s' = true := vx_ot_at hW0 hvm.symm (hgood _ (List.mem_cons_of_mem _ List.mem_cons_self)) hini
  have hU' : vx_Zq Bundle.tN "UNASSIGNED_STACK" Bundle.steD A s' s'.heap := by rw [hhp]; exact vx_Zq.moved hW0.alike (hU.kept hS.2.1)
  have hN' : vx_Zq Bundle.tN "SUPPRESSED_SENTINEL" Bundle.listD A s' s'.heap := by rw [hhp]; exact vx_Zq.moved hW0.alike (hN.kept hS.2.1)
  have h : ∀ w ∈ Bundle.ownAtoms0 own ic cls names, w.before args s' = true := vx_own hat' (vx_isRefq hU'.1) (vx_isRefq hN'.1) hU'.2.word hN'.2.word
  have hown' : s'.vm.findClass own = some m.cls := by rw [hvm]; exact hown
  have hins : (Cond.instantiable cls 6).before args s' = true := h _ (by simp [Bundle.ownAtoms0])
  obtain ⟨vm₁, cX, kX, hfX, hkX, -, -, X₁, st1⟩ := Y.newCold hexec (own := own) (C := cls) (index := ik) (n := 6) hown' hk' hins hini'
    (g := F0 m pc ls rest) rfl (by rw [hb]; exact d0) (Nat.le_refl _) (Nat.le_refl _)
  generalize hT1 : (T.setVm vm₁).pushCell { cls := cX, slots := kX.instanceTypes.map defaultValue, vm := .none } = T1 at X₁ st1
  have hcat : (Value.ref T.heap.size).category = 1 := rfl
  have hcellA : T1.heap[T.heap.size]? = some (freshCell cX kX) := by rw [← hT1]; exact State.heap_pushCell_size _ _
  have d3' : decode c.code (pc + 3) = .ok (.dup, 1) := by rw [hb]; exact d3
  obtain ⟨U, hsteps, hrun, hend, hW, hsame, ce, hce, hO⟩ := X₁.ctorThrow0 hexec htr (own := own) (cls := cls) (names := names) (ic := ic) hown' hcls hnames h (fun x hx => nomatch hx) hfX hkX hcellA (by rw [hhp, hT]; exact Nat.le_refl _)
    (g := { method := m, pc := pc + 4, locals := ls, stack := .ref T.heap.size :: .ref T.heap.size :: rest, locked := none }) rfl hsize rfl rfl (rest := rest) rfl
    (by rw [hb]; exact d4) (by rw [hb]; exact d7) hout hRframes (by simp only [List.map_cons, List.sum_cons, hcat]; omega) hlocks
  obtain ⟨f1, f2⟩ := vx_frame hsame
  rw [hhp] at f1 f2
  have hWs : s.WarmedH U.vm := State.WarmedH.trans hW0 hW
  have hcl : s.vm.findClass cls = some ce.cls := by
    have h9 := hO.cls
    rw [hvm] at h9
    exact h9
  have hall : s.sameButNew ({ U with vm := s.vm } : State) locs mc ms := by
    subst hA
    obtain ⟨e1, e2⟩ := hsame
    rw [State.setFrames_setFrames] at e1
    have h2 : (T.setVm s.vm).sameButNew ({ U with vm := s.vm } : State) [] (0 + 1) (0 + 6) := ⟨e1, e2⟩
    have h3 := X.same.trans h2
    rw [List.append_nil] at h3
    exact h3.mono hc hs
  refine ⟨U, ?_, .threw T.heap.size, hrun, hend, Or.inr ⟨T.heap.size, rfl, cls, ce, locs, hx U hWs.alike f1 (fun q hq => f2 q hq (fun z hz => nomatch hz)), hce, hO.vm, hcl, hWs, hall, hf⟩⟩
  refine st1 _ ?_
  show Steps p.tables e below (T1.setTop { method := m, pc := pc + 3, locals := ls, stack := .ref T.heap.size :: rest, locked := none }) _
  jvm_step X₁.here [X₁.here.top, hexec, d3', Value.category]
  exact hsteps
/-- 'throw new E("text")': new; dup; ldc; invokespecial; athrow -/
theorem vx_throwS {cc : ByteArray} {pc : Nat} (hexec : p.tables.exec = Jvm.exec) (hb : c.code = cc) (hl : l.stackTraces = false) {own cls text : String} {names : List String} {ik is ic mc ms sa : Nat} {A : Nat → Prop}
    (hown : s.vm.findClass own = some m.cls) (hcls : Bundle.fit cls = true) (hnames : ∀ n ∈ names, Bundle.fit n = true)
    (hk : (Cond.classLink own ik cls).before args s = true) (hini : (Cond.initialized cls).before args s = true) (hstr : vk_R own is text sa s) (hat : ∀ w ∈ vx_atS own ic cls names, w.before args s = true)
    (hgood : ∀ w ∈ Cond.classLink own ik cls :: Cond.initialized cls :: vx_atS own ic cls names, vx_ot w = true)
    (hU : vx_Zq Bundle.tN "UNASSIGNED_STACK" Bundle.steD A s s.heap) (hN : vx_Zq Bundle.tN "SUPPRESSED_SENTINEL" Bundle.listD A s s.heap) (hS : va_S A s.heap H locs) (hsize : ls.size = c.maxLocals)
    (d0 : decode cc pc = .ok (.new ik, 3)) (d3 : decode cc (pc + 3) = .ok (.dup, 1)) (d4 : decode cc (pc + 4) = .ok (.ldc is, 2)) (d6 : decode cc (pc + 6) = .ok (.invokespecial ic, 3)) (d9 : decode cc (pc + 9) = .ok (.athrow, 1))
    (hout : ∀ x ∈ c.exceptionTable.toList, covers x (pc + 9) = false)
    (hRframes : names.length + 3 < R.frames) (hRlocals : (rest.map fun v => v.category).sum + (13 * (names.length + 1) + 43) ≤ R.locals) (hRcells : cells + 1 ≤ R.cells) (hRslots : slots + 6 ≤ R.slots) (hlocks : meth.locks = false)
    (hx : ∀ t : State, s.vm.Alike t.vm → H.size ≤ t.heap.size → (∀ q : Nat, q < H.size → t.heap[q]? = H[q]?) → XC cls s t)
    (hf : ∀ z ∈ locs, free z.base) (hc : cells + 1 ≤ mc) (hs : slots + 6 ≤ ms) :
    W p l e R s m args below meth c H locs cells slots (vx_MQ below Qc XC args s mc ms free) (F0 m pc ls rest) := by
  intro T hT X
  have htr : e.platform.stackTraces = false := (show e.platform.stackTraces = l.stackTraces by rw [X.admits.platform]).trans hl
  have Y := vx_rebase X (R' := { frames := R.frames, locals := R.locals, cells := 1, slots := 6 }) (Nat.le_refl _) (Nat.le_refl _) hRcells hRslots
  obtain ⟨s', hA⟩ : ∃ z, z = (T.setVm s.vm).setFrames (.invoking m args :: below) := ⟨_, rfl⟩
  rw [← hA] at Y
  have hvm : s'.vm = s.vm := by rw [hA]; rfl
  have hhp : s'.heap = H := by rw [hA]; exact hT
  have hW0 : s.WarmedH s'.vm := by rw [hvm]; exact State.WarmedH.refl s
  have hat' : ∀ w ∈ vx_atS own ic cls names, w.before args s' = true := fun w hw => vx_ot_at hW0 hvm.symm (hgood w (List.mem_cons_of_mem _ (List.mem_cons_of_mem _ hw))) (hat w hw)
  have hk' : (Cond.classLink own ik cls).before args s' = true := vx_ot_at hW0 hvm.symm (hgood _ List.mem_cons_self) hk
  have hini' : (Cond.initialized cls).before args s' = true := vx_ot_at hW0 hvm.symm (hgood _ (List.mem_cons_of_mem _ List.mem_cons_self)) hini
  have hU' : vx_Zq Bundle.tN "UNASSIGNED_STACK" Bundle.steD A s' s'.heap := by rw [hhp]; exact vx_Zq.moved hW0.alike (hU.kept hS.2.1)
  have hN' : vx_Zq Bundle.tN "SUPPRESSED_SENTINEL" Bundle.listD A s' s'.heap := by rw [hhp]; exact vx_Zq.moved hW0.alike (hN.kept hS.2.1)
  have h : ∀ w ∈ Bundle.ownAtoms own ic cls names, w.before args s' = true := vx_own hat' (vx_isRefq hU'.1) (vx_isRefq hN'.1) hU'.2.word hN'.2.word
  have hown' : s'.vm.findClass own = some m.cls := by rw [hvm]; exact hown
  have hins : (Cond.instantiable cls 6).before args s' = true := h _ (by simp [Bundle.ownAtoms])
  obtain ⟨vm₁, cX, kX, hfX, hkX, -, -, X₁, st1⟩ := Y.newCold hexec (own := own) (C := cls) (index := ik) (n := 6) hown' hk' hins hini'
    (g := F0 m pc ls rest) rfl (by rw [hb]; exact d0) (Nat.le_refl _) (Nat.le_refl _)
  generalize hT1 : (T.setVm vm₁).pushCell { cls := cX, slots := kX.instanceTypes.map defaultValue, vm := .none } = T1 at X₁ st1
  have hcat : (Value.ref T.heap.size).category = 1 := rfl
  have hcellA : T1.heap[T.heap.size]? = some (freshCell cX kX) := by rw [← hT1]; exact State.heap_pushCell_size _ _
  have d3' : decode c.code (pc + 3) = .ok (.dup, 1) := by rw [hb]; exact d3
  have d4' : decode c.code (pc + 4) = .ok (.ldc is, 2) := by rw [hb]; exact d4
  have hstr' : vk_R own is text sa s' := vk_R.warm hW0 hstr
  obtain ⟨U, hsteps, hrun, hend, hW, hsame, ce, hce, hO⟩ := X₁.ctorThrowS hexec htr (own := own) (cls := cls) (names := names) (ic := ic) hown' hcls hnames h (fun x hx => nomatch hx) hfX hkX hcellA (by rw [hhp, hT]; exact Nat.le_refl _) (msg := .ref sa) rfl
    (g := { method := m, pc := pc + 6, locals := ls, stack := .ref sa :: .ref T.heap.size :: .ref T.heap.size :: rest, locked := none }) rfl hsize rfl rfl (rest := rest) rfl
    (by rw [hb]; exact d6) (by rw [hb]; exact d9) hout hRframes (by simp only [List.map_cons, List.sum_cons, hcat]; omega) hlocks
  obtain ⟨f1, f2⟩ := vx_frame hsame
  rw [hhp] at f1 f2
  have hWs : s.WarmedH U.vm := State.WarmedH.trans hW0 hW
  have hcl : s.vm.findClass cls = some ce.cls := by
    have h9 := hO.cls
    rw [hvm] at h9
    exact h9
  have hall : s.sameButNew ({ U with vm := s.vm } : State) locs mc ms := by
    subst hA
    obtain ⟨e1, e2⟩ := hsame
    rw [State.setFrames_setFrames] at e1
    have h2 : (T.setVm s.vm).sameButNew ({ U with vm := s.vm } : State) [] (0 + 1) (0 + 6) := ⟨e1, e2⟩
    have h3 := X.same.trans h2
    rw [List.append_nil] at h3
    exact h3.mono hc hs
  refine ⟨U, ?_, .threw T.heap.size, hrun, hend, Or.inr ⟨T.heap.size, rfl, cls, ce, locs, hx U hWs.alike f1 (fun q hq => f2 q hq (fun z hz => nomatch hz)), hce, hO.vm, hcl, hWs, hall, hf⟩⟩
  refine st1 _ ?_
  show Steps p.tables e below (T1.setTop { method := m, pc := pc + 3, locals := ls, stack := .ref T.heap.size :: rest, locked := none }) _
  jvm_step X₁.here [X₁.here.top, hexec, d3', Value.category]
  exact X₁.ldcString hexec (own := own) (text := text) (index := is) (a := sa) hown' hstr'.1 hstr'.2
    (g := { method := m, pc := pc + 4, locals := ls, stack := .ref T.heap.size :: .ref T.heap.size :: rest, locked := none }) rfl d4' _ hsteps
/-- 'throw new E("text")', the text by a wide index -/
theorem vx_throwSW {cc : ByteArray} {pc : Nat} (hexec : p.tables.exec = Jvm.exec) (hb : c.code = cc) (hl : l.stackTraces = false) {own cls text : String} {names : List String} {ik is ic mc ms sa : Nat} {A : Nat → Prop}
    (hown : s.vm.findClass own = some m.cls) (hcls : Bundle.fit cls = true) (hnames : ∀ n ∈ names, Bundle.fit n = true)
    (hk : (Cond.classLink own ik cls).before args s = true) (hini : (Cond.initialized cls).before args s = true) (hstr : vk_R own is text sa s) (hat : ∀ w ∈ vx_atS own ic cls names, w.before args s = true)
    (hgood : ∀ w ∈ Cond.classLink own ik cls :: Cond.initialized cls :: vx_atS own ic cls names, vx_ot w = true)
    (hU : vx_Zq Bundle.tN "UNASSIGNED_STACK" Bundle.steD A s s.heap) (hN : vx_Zq Bundle.tN "SUPPRESSED_SENTINEL" Bundle.listD A s s.heap) (hS : va_S A s.heap H locs) (hsize : ls.size = c.maxLocals)
    (d0 : decode cc pc = .ok (.new ik, 3)) (d3 : decode cc (pc + 3) = .ok (.dup, 1)) (d4 : decode cc (pc + 4) = .ok (.ldc_w is, 3)) (d7 : decode cc (pc + 7) = .ok (.invokespecial ic, 3)) (d10 : decode cc (pc + 10) = .ok (.athrow, 1))
    (hout : ∀ x ∈ c.exceptionTable.toList, covers x (pc + 10) = false)
    (hRframes : names.length + 3 < R.frames) (hRlocals : (rest.map fun v => v.category).sum + (13 * (names.length + 1) + 43) ≤ R.locals) (hRcells : cells + 1 ≤ R.cells) (hRslots : slots + 6 ≤ R.slots) (hlocks : meth.locks = false)
    (hx : ∀ t : State, s.vm.Alike t.vm → H.size ≤ t.heap.size → (∀ q : Nat, q < H.size → t.heap[q]? = H[q]?) → XC cls s t)
    (hf : ∀ z ∈ locs, free z.base) (hc : cells + 1 ≤ mc) (hs : slots + 6 ≤ ms) :
    W p l e R s m args below meth c H locs cells slots (vx_MQ below Qc XC args s mc ms free) (F0 m pc ls rest) := by
  intro T hT X
  have htr : e.platform.stackTraces = false := (show e.platform.stackTraces = l.stackTraces by rw [X.admits.platform]).trans hl
  have Y := vx_rebase X (R' := { frames := R.frames, locals := R.locals, cells := 1, slots := 6 }) (Nat.le_refl _) (Nat.le_refl _) hRcells hRslots
  obtain ⟨s', hA⟩ : ∃ z, z = (T.setVm s.vm).setFrames (.invoking m args :: below) := ⟨_, rfl⟩
  rw [← hA] at Y
  have hvm : s'.vm = s.vm := by rw [hA]; rfl
  have hhp : s'.heap = H := by rw [hA]; exact hT
  have hW0 : s.WarmedH s'.vm := by rw [hvm]; exact State.WarmedH.refl s
  have hat' : ∀ w ∈ vx_atS own ic cls names, w.before args s' = true := fun w hw => vx_ot_at hW0 hvm.symm (hgood w (List.mem_cons_of_mem _ (List.mem_cons_of_mem _ hw))) (hat w hw)
  have hk' : (Cond.classLink own ik cls).before args s' = true := vx_ot_at hW0 hvm.symm (hgood _ List.mem_cons_self) hk
  have hini' : (Cond.initialized cls).before args s' = true := vx_ot_at hW0 hvm.symm (hgood _ (List.mem_cons_of_mem _ List.mem_cons_self)) hini
  have hU' : vx_Zq Bundle.tN "UNASSIGNED_STACK" Bundle.steD A s' s'.heap := by rw [hhp]; exact vx_Zq.moved hW0.alike (hU.kept hS.2.1)
  have hN' : vx_Zq Bundle.tN "SUPPRESSED_SENTINEL" Bundle.listD A s' s'.heap := by rw [hhp]; exact vx_Zq.moved hW0.alike (hN.kept hS.2.1)
  have h : ∀ w ∈ Bundle.ownAtoms own ic cls names, w.before args s' = true := vx_own hat' (vx_isRefq hU'.1) (vx_isRefq hN'.1) hU'.2.word hN'.2.word
  have hown' : s'.vm.findClass own = some m.cls := by rw [hvm]; exact hown
  have hins : (Cond.instantiable cls 6).before args s' = true := h _ (by simp [Bundle.ownAtoms])
  obtain ⟨vm₁, cX, kX, hfX, hkX, -, -, X₁, st1⟩ := Y.newCold hexec (own := own) (C := cls) (index := ik) (n := 6) hown' hk' hins hini'
    (g := F0 m pc ls rest) rfl (by rw [hb]; exact d0) (Nat.le_refl _) (Nat.le_refl _)
  generalize hT1 : (T.setVm vm₁).pushCell { cls := cX, slots := kX.instanceTypes.map defaultValue, vm := .none } = T1 at X₁ st1
  have hcat : (Value.ref T.heap.size).category = 1 := rfl
  have hcellA : T1.heap[T.heap.size]? = some (freshCell cX kX) := by rw [← hT1]; exact State.heap_pushCell_size _ _
  have d3' : decode c.code (pc + 3) = .ok (.dup, 1) := by rw [hb]; exact d3
  have d4' : decode c.code (pc + 4) = .ok (.ldc_w is, 3) := by rw [hb]; exact d4
  have hstr' : vk_R own is text sa s' := vk_R.warm hW0 hstr
  obtain ⟨U, hsteps, hrun, hend, hW, hsame, ce, hce, hO⟩ := X₁.ctorThrowS hexec htr (own := own) (cls := cls) (names := names) (ic := ic) hown' hcls hnames h (fun x hx => nomatch hx) hfX hkX hcellA (by rw [hhp, hT]; exact Nat.le_refl _) (msg := .ref sa) rfl
    (g := { method := m, pc := pc + 7, locals := ls, stack := .ref sa :: .ref T.heap.size :: .ref T.heap.size :: rest, locked := none }) rfl hsize rfl rfl (rest := rest) rfl
    (by rw [hb]; exact d7) (by rw [hb]; exact d10) hout hRframes (by simp only [List.map_cons, List.sum_cons, hcat]; omega) hlocks
  obtain ⟨f1, f2⟩ := vx_frame hsame
  rw [hhp] at f1 f2
  have hWs : s.WarmedH U.vm := State.WarmedH.trans hW0 hW
  have hcl : s.vm.findClass cls = some ce.cls := by
    have h9 := hO.cls
    rw [hvm] at h9
    exact h9
  have hall : s.sameButNew ({ U with vm := s.vm } : State) locs mc ms := by
    subst hA
    obtain ⟨e1, e2⟩ := hsame
    rw [State.setFrames_setFrames] at e1
    have h2 : (T.setVm s.vm).sameButNew ({ U with vm := s.vm } : State) [] (0 + 1) (0 + 6) := ⟨e1, e2⟩
    have h3 := X.same.trans h2
    rw [List.append_nil] at h3
    exact h3.mono hc hs
  refine ⟨U, ?_, .threw T.heap.size, hrun, hend, Or.inr ⟨T.heap.size, rfl, cls, ce, locs, hx U hWs.alike f1 (fun q hq => f2 q hq (fun z hz => nomatch hz)), hce, hO.vm, hcl, hWs, hall, hf⟩⟩
  refine st1 _ ?_
  show Steps p.tables e below (T1.setTop { method := m, pc := pc + 3, locals := ls, stack := .ref T.heap.size :: rest, locked := none }) _
  jvm_step X₁.here [X₁.here.top, hexec, d3', Value.category]
  exact X₁.ldcStringW hexec (own := own) (text := text) (index := is) (a := sa) hown' hstr'.1 hstr'.2
    (g := { method := m, pc := pc + 4, locals := ls, stack := .ref T.heap.size :: .ref T.heap.size :: rest, locked := none }) rfl d4' _ hsteps
end Ends
section Bodies
variable {l : Launch}
theorem vx_ofW {y : MethodName} {ws ws' : List Cond} {rm : Room} {Pc : Array Value → State → Prop} {Qc : Array Value → State → Outcome → State → Prop} {XC : String → State → State → Prop} {mc ms : Nat} {free : Addr → Prop} {cc : ByteArray} {maxL : Nat} {ret : Option FieldType}
    (hy : plainName y.cls = true) (hw : ws = Cond.code y cc maxL ret :: ws')
    (body : ∀ p e s m args below meth c s₁, BodyLoose p l y (headSpec ws rm) cc maxL ret e s m args below meth c s₁ → c.maxLocals = maxL → (∀ x ∈ c.exceptionTable.toList, False) → Pc args s →
      W p l e (headSpec ws rm).room s m args below meth c s.heap [] 0 0 (vx_MQ below Qc XC args s mc ms free) (entryFrame m args maxL)) : vx_Met l y ws rm Pc Qc XC mc ms free := by
  refine MetFree.of_bodyS (code := cc) (maxLocals := maxL) (ret := ret) hy ?_ ?_
  · intro args s m h hn
    obtain ⟨meth, c, h1, h2, h3, h4, h5, h6, -, -⟩ := Cond.code_spec hn (atoms_spec (ws := ws) h _ (by rw [hw]; exact List.mem_cons_self))
    exact ⟨meth, c, h1, h2, h3, h4, h5, h6⟩
  · intro p e s m args below meth c s₁ B hml hP _
    have hh0 : s₁.heap = s.heap := by rw [B.state]; rfl
    have ht : ∀ x ∈ c.exceptionTable.toList, False := by
      obtain ⟨meth9, c9, h1, h2, -, -, -, -, h7, -⟩ := Cond.code_spec B.named (atoms_spec (ws := ws) B.pre _ (by rw [hw]; exact List.mem_cons_self))
      cases Option.some.inj (h1.symm.trans B.method)
      cases Option.some.inj (h2.symm.trans (Stand.of_body B).code)
      intro x hx
      rw [Array.isEmpty_iff.mp h7] at hx
      cases hx
    obtain ⟨t, a1, o, b1, b2, b3⟩ := body p e s m args below meth c s₁ B hml ht hP s₁ hh0 (Stand.of_body B)
    exact ⟨t, o, a1, b1, b2, b3⟩
/-- the table of a body with handlers -/
theorem vx_table {p : Program} {x y : MethodName} {S : Spec} {cc bytes : ByteArray} {maxL maxL' : Nat} {ret ret' : Option FieldType} {e : Env} {s s₁ : State} {m : MethodId} {args : Array Value} {below : List Frame} {meth : Method} {c : Code} {hh : List (Nat × Nat × Nat × Nat)}
    (B : BodyLoose p l y S cc maxL ret e s m args below meth c s₁) (h : (Cond.codeWith y bytes maxL' ret' hh).before args s = true) : c.exceptionTable.toList = tableOf hh := by
  obtain ⟨m9, meth9, c9, hn9, h1, h2, -, -, h6, -⟩ := Cond.codeWith_spec h
  cases Option.some.inj (hn9.symm.trans B.named)
  cases Option.some.inj (h1.symm.trans B.method)
  cases Option.some.inj (h2.symm.trans (Stand.of_body B).code)
  rw [← h6, table_eq]
end Bodies
end VXA
/-! ===== END ===== -/
/-! ===== BEGIN a static call of a method with an exception table ===== -/
section VXS
variable {p : Program} {l : Launch} {e : Env} {R : Room} {s : State} {m : MethodId} {args : Array Value} {below : List Frame} {meth : Method} {c : Code} {T : State} {H : Heap} {locs : List Loc} {cells slots : Nat}
abbrev vx_CSW (R : Room) (s : State) (args : Array Value) (own : String) (index : Nat) (y : MethodName) (bytes : ByteArray) (maxL : Nat) (ret : Option FieldType) (hh : List (Nat × Nat × Nat × Nat)) (ws : List Cond) (rm : Room) (mc ms n : Nat) : Prop :=
  (rm.cells = mc ∧ rm.slots = ms ∧ rm.frames + 1 ≤ R.frames ∧ 8 + (maxL + 11) + rm.locals ≤ R.locals ∧ (∀ w ∈ ws, ∀ (a' : Array Value) (U : State), s.WarmedH U.vm → w.before a' U = true) ∧ Cond.codeWith y bytes maxL ret hh ∈ ws) ∧
  (Cond.codeWith y bytes maxL ret hh).before args s = true ∧ (Cond.initialized y.cls).before args s = true ∧ (y.cls ≠ "java/lang/invoke/MethodHandle" ∧ y.cls ≠ "java/lang/invoke/VarHandle") ∧
  (∀ sig, parseMethodDescriptor y.desc = some sig → n = sig.parameters.length) ∧ (Cond.methodLink own index y).before args s = true ∧ (Cond.static y).before args s = true
theorem vx_cwSW {own : String} {index maxL mc ms : Nat} {y : MethodName} {bytes : ByteArray} {ret : Option FieldType} {hh : List (Nat × Nat × Nat × Nat)} {Ts ws ws' : List Cond} {rm : Room} (n : Nat) (ht : ∀ w ∈ Ts, w.before args s = true) (hT : GoodIn Ts (va_wsS own index y ws)) (hw : ws = Cond.codeWith y bytes maxL ret hh :: ws') (hrc : rm.cells = mc) (hrs : rm.slots = ms)
    (hd : y.cls ≠ "java/lang/invoke/MethodHandle" ∧ y.cls ≠ "java/lang/invoke/VarHandle" ∧ (parseMethodDescriptor y.desc).map (fun d => d.parameters.length) = some n) (hR : rm.frames + 1 ≤ R.frames ∧ 8 + (maxL + 11) + rm.locals ≤ R.locals) :
    vx_CSW R s args own index y bytes maxL ret hh ws rm mc ms n := by
  have ok : ∀ w ∈ va_wsS own index y ws, w.before args s = true := fun w h => ht w (hT w h).1
  have hG : GoodIn Ts ws := fun w h => hT w (by unfold va_wsS; exact List.mem_append_right _ h)
  have hc : Cond.codeWith y bytes maxL ret hh ∈ ws := by rw [hw]; exact List.mem_cons_self
  refine ⟨⟨hrc, hrs, hR.1, hR.2, pay_in ht hG, hc⟩, ht _ (hG _ hc).1, ok _ (by simp [va_wsS]), ⟨hd.1, hd.2.1⟩, fun sig h => ?_, ok _ (by simp [va_wsS]), ok _ (by simp [va_wsS])⟩
  have h2 := hd.2.2
  rw [h] at h2
  exact (Option.some.inj h2).symm
theorem vx_callSW (X : Stand p l e R s m args below meth c T locs cells slots) (hexec : p.tables.exec = Jvm.exec) {own : String} {index : Nat} {y : MethodName} {bytes : ByteArray} {maxL : Nat} {ret : Option FieldType} {hh : List (Nat × Nat × Nat × Nat)}
    (hown : s.vm.findClass own = some m.cls) (hlink : (Cond.methodLink own index y).before args s = true) (hstat : (Cond.static y).before args s = true) (hinit : (Cond.initialized y.cls).before args s = true)
    (hcode : (Cond.codeWith y bytes maxL ret hh).before args s = true) (hy : y.cls ≠ "java/lang/invoke/MethodHandle" ∧ y.cls ≠ "java/lang/invoke/VarHandle")
    {W9 : Nat} {Pre : Pt → Array Value → Prop} {Post : Pt → Array Value → Option Value → Pt → Prop} (hK : Back l R p e below s args y 3 W9 Pre Post)
    {g : JFrame} (hg : g.method = m) (hsize : g.locals.size = c.maxLocals) {argsL rest : List Value} (hlen : ∀ sig, parseMethodDescriptor y.desc = some sig → argsL.length = sig.parameters.length)
    (hstack : g.stack = argsL.reverse ++ rest) (hW : 2 * g.monitorRoom + (rest.map fun v => v.category).sum ≤ W9) (hdg : decode c.code g.pc = .ok (.invokestatic index, 3))
    (hpre : ∀ vm₁, s.WarmedH vm₁ → Pre ⟨T.setVm vm₁, locs, cells, slots⟩ argsL.toArray) :
    ∃ (v : Option Value) (vm₁ : Vm) (B : Pt), s.WarmedH vm₁ ∧ Stand p l e R s m args below meth c B.U B.locs B.cells B.slots ∧ Post ⟨T.setVm vm₁, locs, cells, slots⟩ argsL.toArray v B ∧
      ∀ target, Steps p.tables e below (B.U.setTop { g with pc := g.pc + 3, stack := v.toList ++ rest }) target → Steps p.tables e below (T.setTop g) target := by
  obtain ⟨mk, methM, cM, hnamed, hmethM, -, -, -, -, -, -, hsigM⟩ := Cond.codeWith_spec hcode
  have hstatic : methM.isStatic = true := Cond.static_spec hnamed hmethM hstat
  obtain ⟨kP, hkP, -⟩ := className_of_methodNamed hnamed
  have hinitP : kP.init = .initialized := Cond.initialized_spec (findClass_of_methodNamed hnamed) hkP hinit
  obtain ⟨vm₁, X₁, hstep₁⟩ := X.invokestatic hexec hown hlink hnamed hmethM hstatic hkP hinitP hy (g := g) hg (argsL := argsL) (rest := rest) (hlen _ hsigM) hstack hdg
  obtain ⟨v, B, X', hpost, hsteps⟩ := hK m meth c ⟨T.setVm vm₁, locs, cells, slots⟩ { g with stack := rest } (.invokestatic index) mk argsL.toArray X₁ hg hsize hdg hW (X₁.named hnamed) (hpre vm₁ X₁.warmed)
  exact ⟨v, vm₁, B, X₁.warmed, X', hpost, fun target h => hstep₁ _ fun acts => by rw [doInvoke_state]; exact hsteps.trans h⟩
theorem vx_runSW {y : MethodName} {bytes cc : ByteArray} {maxL nL mc ms n index : Nat} {ret : Option FieldType} {hh : List (Nat × Nat × Nat × Nat)} {ws : List Cond} {rm : Room} {Pc : Array Value → State → Prop} {Qc : Array Value → State → Outcome → State → Prop} {free : Addr → Prop} {Ts : List Cond} {own : String} {As rest : List Value} {g : JFrame}
    (S : CallFix p m c cc nL s args Ts own) (hM : Met l y ws rm Pc Qc mc ms free) (cw : vx_CSW R s args own index y bytes maxL ret hh ws rm mc ms n) (hp : PreS s H Pc As)
    (hg : g.method = m) (hn : As.length = n) (hsize : g.locals.size = nL) (hstack : g.stack = As.reverse ++ rest) (hW : 2 * g.monitorRoom + (rest.map fun v => v.category).sum ≤ 8) (hdg : decode cc g.pc = .ok (.invokestatic index, 3)) (hf : cells + mc ≤ R.cells ∧ slots + ms ≤ R.slots) :
    va_Run p l e R s m args below meth c H locs cells slots mc ms g rest (Qc As.toArray) (free) := by
  obtain ⟨⟨hrc, hrs, hfr, hlo, hws, hcw⟩, hcode, hini, hy, hlen, hl, hstt⟩ := cw
  have hK : Back l R p e below s args y 3 8 (PreOf R mc ms Pc) (PostOf Qc mc ms free) := va_backW (hh := hh) (bytes := bytes) (maxL := maxL) (ret := ret) hM hp.1 hrc hrs hfr hlo hws hcw (fun a' U hW => word_at hW (Or.inl (by first | rfl | simp [Cond.onTables, Cond.keeps, Cond.steady])) hini)
  obtain ⟨hx, hb, hml, ho, -⟩ := S
  intro T hT X
  obtain ⟨v, vm₁, ⟨U', l2, c2, s2⟩, hW₁, X', ⟨g', mk, t, L, e1, e2, hq, h1, hL, h2, h3⟩, st⟩ := vx_callSW X hx (hh := hh) (bytes := bytes) (maxL := maxL) (ret := ret) ho hl hstt hini hcode hy hK hg (hsize.trans hml.symm) (argsL := As) (rest := rest) (fun sig h => hn.trans (hlen sig h)) hstack hW (by rw [hb]; exact hdg)
    (fun vm₁ hW₁ => ⟨hf.1, hf.2, hp.2 (T.setVm vm₁) hT hW₁⟩)
  dsimp only [Pt.U, Pt.locs, Pt.cells, Pt.slots] at X' e1 e2 h1 h2 h3 st
  subst h1; subst h2; subst h3
  exact ⟨v, (T.setVm vm₁).calling g' mk As.toArray, t, U', L, hT, X', hL, e1, e2, hq, st⟩
/-- not caught here, past rows that name other classes: it goes on to the caller -/
theorem vx_outP {p : Program} {l : Launch} {e : Env} {R : Room} {s : State} {m : MethodId} {args : Array Value} {below : List Frame} {meth : Method} {c : Code} {H : Heap} {locs : List Loc} {cells slots : Nat} {free : Addr → Prop} {ls : Array Slot} {rest : List Value} {Qc : Array Value → State → Outcome → State → Prop} {XC : String → State → State → Prop}
    {pc : Nat} {own E : String} {ce : Cell} {q : Addr} {mc ms : Nat} (hown : s.vm.findClass own = some m.cls) (hlocks : meth.locks = false)
    (hpass : ∀ z ∈ c.exceptionTable.toList, covers z pc = false ∨ (z.catchType ≠ 0 ∧ ∃ nm : String, (Cond.classLink own z.catchType nm).before args s = true ∧ va_Nc E nm s)) (hcell : H[q]? = some ce) (hv : ce.vm = .none) (hcl : s.vm.findClass E = some ce.cls)
    (hx : ∀ t : State, t.heap = H → s.vm.Alike t.vm → XC E s t) (hf : ∀ z ∈ locs, free z.base) (hc : cells ≤ mc) (hs : slots ≤ ms) :
    vx_W p l e R s m args below meth c H locs cells slots (vx_MQ below Qc XC args s mc ms free) (F0 m pc ls rest) q := by
  intro T hT X
  have hpl : e.platform.magicAccessors = ({} : Platform).magicAccessors := by rw [X.admits.platform]
  obtain ⟨vm', hW', X', st⟩ := X.outThrough hlocks q (g := F0 m pc ls rest) rfl rfl rfl (cell := ce) (by rw [hT]; exact hcell) (by rw [hv]; rfl)
    (by obtain ⟨k9, h9, -⟩ := Vm.findClass_spec hcl; exact ⟨k9, h9⟩) (fun z hz => by
      rcases hpass z hz with h | ⟨hz0, nm, hl1, hn1⟩
      · exact Or.inl h
      · obtain ⟨c6, hc6, hcl6⟩ := Cond.classLink_spec hown hl1 e.platform hpl
        obtain ⟨a8, b8, h1, h2, h3⟩ := hn1
        cases Option.some.inj (h1.symm.trans hcl)
        cases Option.some.inj (h2.symm.trans hc6)
        exact Or.inr ⟨hz0, _, hcl6, h3⟩)
  obtain ⟨g₀, hfr⟩ := X'.frames_eq
  have hcell9 : ((T.setVm vm').setFrames (.throwing q :: below)).heap[q]? = some ce := by
    show T.heap[q]? = some ce
    rw [hT]; exact hcell
  have hend : Ended ((T.setVm vm').setFrames (.throwing q :: below)) below (.threw q) := State.frames_setFrames _ (State.cur_lt_of_frames hfr)
  refine ⟨(T.setVm vm').setFrames (.throwing q :: below), ?_, .threw q, X'.here.running, hend, Or.inr ⟨q, rfl, E, ce, locs, hx _ hT (X'.ends _).1.alike, hcell9, hv, hcl, (X'.ends _).1, (X'.ends _).2.mono hc hs, hf⟩⟩
  rw [X.pushThrowing_eq]
  exact st
/-- a thing of a world lies in the heap -/
theorem vx_lt {D : va_G} {cl : List vw_C} {ws : va_W} {H1 : Heap} (h : va_P D cl ws H1) {k : Nat} {q : Nat × va_E} (hk : ws[k]? = some q) : q.1 < H1.size := (h k q hk).lt
end VXS
/-! ===== END ===== -/
/-! ===== BEGIN methods with a table of their own: called by a name, returning or throwing ===== -/
section VXH
/-! vx_backW, vx_callVX, vx_callSX, vx_callVW, vx_runVW, vx_runVX, vx_runSX, vx_ofWH follow the same proofs as their sisters above (Free/Laws.lean, Shelf42/LK1.lean); vx_outP calls Shelf42/NT130.lean (outThrough). -/
section
variable {l : Launch} {R : Room} {p : Program} {e : Env} {below : List Frame} {s : State} {sargs : Array Value} {y : MethodName} {len W9 : Nat}
theorem vx_backW {ws : List Cond} {rm : Room} {Pc : Array Value → State → Prop} {Qc : Array Value → State → Outcome → State → Prop} {XC : String → State → State → Prop} {mc ms : Nat} {free : Addr → Prop} {bytes : ByteArray} {maxL : Nat} {ret : Option FieldType} {hh : List (Nat × Nat × Nat × Nat)}
    (hM : vx_Met l y ws rm Pc Qc XC mc ms free) (hblind : FrameBlind Pc) (hrc : rm.cells = mc) (hrs : rm.slots = ms)
    (hframes : rm.frames + 1 ≤ R.frames) (hlocals : W9 + (maxL + 11) + rm.locals ≤ R.locals)
    (hws : ∀ w ∈ ws, ∀ a' U, s.WarmedH U.vm → w.before a' U = true) (hcode : Cond.codeWith y bytes maxL ret hh ∈ ws) (hinit : ∀ a' U, s.WarmedH U.vm → (Cond.initialized y.cls).before a' U = true) :
    vx_Back l R p e below s sargs y len W9 (PreOf R mc ms Pc) (PostOf Qc mc ms free) (vx_Post XC mc ms free) := by
  intro m meth c A g ig mk a X hg hsize hdg hW hn hp
  have h1 : (headSpec ws rm).pre.before a A.U = true := atoms_intro fun w hw => hws w hw _ _ X.warmed
  have h2 : (Cond.codeWith y bytes maxL ret hh).before a A.U = true := hws _ hcode _ _ X.warmed
  have h3 : (Cond.initialized y.cls).before a A.U = true := hinit _ _ X.warmed
  have h4 : A.cells + (headSpec ws rm).room.cells ≤ R.cells := by rw [show (headSpec ws rm).room.cells = mc from hrc]; exact hp.1
  have h5 : A.slots + (headSpec ws rm).room.slots ≤ R.slots := by rw [show (headSpec ws rm).room.slots = ms from hrs]; exact hp.2.1
  have hPc : Pc a (A.U.calling g mk a) := hblind _ _ _ _ hp.2.2
  obtain ⟨U, Ls, c0, s0⟩ := A
  dsimp only [Pt.U, Pt.locs, Pt.cells, Pt.slots] at h1 h2 h3 h4 h5 X hn hPc ⊢
  obtain ⟨m9, methY, cY, hn9, hmY, hcY, -, hlY, -⟩ := Cond.codeWith_spec h2
  cases Option.some.inj (hn9.symm.trans hn)
  obtain ⟨kY, hkY, -⟩ := className_of_methodNamed hn
  have hinitY : kY.init = .initialized := Cond.initialized_spec (findClass_of_methodNamed hn) hkY h3
  have h : At U g.method c below := by rw [hg]; exact X.here
  have hlocals9 : W9 + (maxL + 11) + (headSpec ws rm).room.locals ≤ R.locals := hlocals
  have happ : (headSpec ws rm).appliesLoose y e.platform (U.calling g mk a) = true :=
    Spec.appliesLoose_calling (g := g) h hdg hn hkY hinitY
      (X.room_calling (g := g) (R' := (headSpec ws rm).room) hsize hmY hcY hframes (by rw [hlY]; omega) h4 h5) h1
  obtain ⟨mid, hmid⟩ := h.above
  have hfr : (U.setTop g).frames = (.java g :: mid) ++ below := by rw [State.frames_setTop' g h.top, hmid]; rfl
  obtain ⟨o, s₂, hsteps, -, hend, hq⟩ := Steps.callFree hM p X.admits X.cas X.clock (acts := []) hfr happ hPc trivial
  have hq' : vx_Q Qc XC mc ms free a (U.calling g mk a) o s₂ := hq
  rw [State.frames_setTop' g h.top] at hend
  obtain ⟨g₀, hg0⟩ := Option.isSome_iff_exists.mp h.top
  obtain ⟨r, hr⟩ := State.topJava?_eq_some.mp hg0
  have hr' : (({ U with heap := s₂.heap, slotsUsed := s₂.slotsUsed } : State).setVm s₂.vm).frames = .java g₀ :: r := hr
  rcases hq' with ⟨hqc, L, hfe, hL⟩ | ⟨q, rfl, E, ce, L, hx, hce, hcv, hcl, hW₂, hsm, hL⟩
  · obtain ⟨⟨v, rfl⟩, hW₂, e2, q2, q3, q4, q5, q6⟩ := id hfe
    have e3 : s₂ = ({ (U.calling g mk a).setFrames s₂.frames with heap := s₂.heap, slotsUsed := s₂.slotsUsed } : State).setVm s₂.vm := by
      have : s₂ = ({ s₂ with vm := (U.calling g mk a).vm } : State).setVm s₂.vm := rfl
      rw [e2] at this
      exact this
    obtain ⟨c₂, i₂, len₂, hc₂, hd₂, hf₂⟩ := hend
    have hW' : U.WarmedH s₂.vm := hW₂
    have hcc : c₂ = c := by
      have h1 : s₂.code? g.method = U.code? g.method := by
        rw [State.code?_eq, State.code?_eq, hW'.alike.method?]
      exact Option.some.inj (hc₂.symm.trans (h1.trans h.code))
    subst hcc
    have hlen : len₂ = len := by rw [hdg] at hd₂; cases hd₂; rfl
    subst hlen
    have hs₂ : s₂ = (({ U with heap := s₂.heap, slotsUsed := s₂.slotsUsed } : State).setVm s₂.vm).setTop { g with pc := g.pc + len₂, stack := v.toList ++ g.stack } := by
      refine e3.trans ?_
      rw [hf₂, State.calling_eq h.top, State.setFrames_setFrames, State.setTop_of_frames _ hr', hr]
      rfl
    have hsame : U.sameButNew ({ U with heap := s₂.heap, slotsUsed := s₂.slotsUsed } : State) L mc ms := by
      refine ⟨?_, q2, q3, q4, q5, q6⟩
      obtain ⟨t, ht, -⟩ := State.frames_cons hr
      show ({ U with heap := s₂.heap, slotsUsed := s₂.slotsUsed } : State) = { U.setFrames U.frames with heap := s₂.heap, slotsUsed := s₂.slotsUsed }
      rw [State.setFrames_self ht]
    subst hg
    refine Or.inl ⟨v, ⟨(({ U with heap := s₂.heap, slotsUsed := s₂.slotsUsed } : State).setVm s₂.vm), Ls ++ L, c0 + mc, s0 + ms⟩,
      ⟨X.admits, X.cas, X.clock, X.frames, X.room, X.hears, X.method, X.code, (X.here.setHeapUsed s₂.heap s₂.slotsUsed).setVm hW'.alike, X.tail, State.WarmedH.trans X.warmed hW', X.limits, X.bytes, X.same.trans (hsame.setVm s.vm)⟩,
      ⟨g, mk, s₂, L, rfl, rfl, hqc, rfl, hL, rfl, rfl⟩, ?_⟩
    show Steps p.tables e below _ ((({ U with heap := s₂.heap, slotsUsed := s₂.slotsUsed } : State).setVm s₂.vm).setTop { g with pc := g.pc + len₂, stack := v.toList ++ g.stack })
    rw [← hs₂]
    exact hsteps
  · obtain ⟨e2, q2, q3, q4, q5, q6⟩ := id hsm
    have e3 : s₂ = ({ (U.calling g mk a).setFrames s₂.frames with heap := s₂.heap, slotsUsed := s₂.slotsUsed } : State).setVm s₂.vm := by
      have : s₂ = ({ s₂ with vm := (U.calling g mk a).vm } : State).setVm s₂.vm := rfl
      rw [e2] at this
      exact this
    have hf₂ : s₂.frames = .throwing q :: .java g :: U.frames.tail := hend
    have hW' : U.WarmedH s₂.vm := hW₂
    have hs₂ : s₂ = ((({ U with heap := s₂.heap, slotsUsed := s₂.slotsUsed } : State).setVm s₂.vm).setTop g).pushFrame (.throwing q) := by
      refine e3.trans ?_
      rw [hf₂, State.calling_eq h.top, State.setFrames_setFrames, State.pushFrame, State.frames_setTop _ hr', State.setTop_of_frames _ hr', State.setFrames_setFrames, hr]
      rfl
    have hsame : U.sameButNew ({ U with heap := s₂.heap, slotsUsed := s₂.slotsUsed } : State) L mc ms := by
      refine ⟨?_, q2, q3, q4, q5, q6⟩
      obtain ⟨t, ht, -⟩ := State.frames_cons hr
      show ({ U with heap := s₂.heap, slotsUsed := s₂.slotsUsed } : State) = { U.setFrames U.frames with heap := s₂.heap, slotsUsed := s₂.slotsUsed }
      rw [State.setFrames_self ht]
    subst hg
    refine Or.inr ⟨q, ⟨(({ U with heap := s₂.heap, slotsUsed := s₂.slotsUsed } : State).setVm s₂.vm), Ls ++ L, c0 + mc, s0 + ms⟩,
      ⟨X.admits, X.cas, X.clock, X.frames, X.room, X.hears, X.method, X.code, (X.here.setHeapUsed s₂.heap s₂.slotsUsed).setVm hW'.alike, X.tail, State.WarmedH.trans X.warmed hW', X.limits, X.bytes, X.same.trans (hsame.setVm s.vm)⟩,
      ⟨g, mk, s₂, L, E, ce, rfl, rfl, hx, hce, hcv, hcl, rfl, hL, rfl, rfl⟩, ?_⟩
    show Steps p.tables e below _ (((({ U with heap := s₂.heap, slotsUsed := s₂.slotsUsed } : State).setVm s₂.vm).setTop g).pushFrame (.throwing q))
    rw [← hs₂]
    exact hsteps
end
variable {p : Program} {l : Launch} {e : Env} {R : Room} {s : State} {m : MethodId} {args : Array Value} {below : List Frame} {meth : Method} {c : Code} {T : State} {H : Heap} {locs : List Loc} {cells slots : Nat}
theorem vx_callVX (X : Stand p l e R s m args below meth c T locs cells slots) (hexec : p.tables.exec = Jvm.exec) {own C : String} {index : Nat} {y : MethodName} {bytes : ByteArray} {maxL : Nat} {ret : Option FieldType} {hh : List (Nat × Nat × Nat × Nat)}
    (hown : s.vm.findClass own = some m.cls) (hlink : (Cond.methodLink own index y).before args s = true) (hinst : (Cond.instanceMethod y).before args s = true) (hsel : (Cond.selects C y y).before args s = true)
    (hcode : (Cond.codeWith y bytes maxL ret hh).before args s = true) (hy : y.cls ≠ "java/lang/invoke/MethodHandle" ∧ y.cls ≠ "java/lang/invoke/VarHandle")
    {W9 : Nat} {Pre : Pt → Array Value → Prop} {Post : Pt → Array Value → Option Value → Pt → Prop} {PostX : Pt → Array Value → Addr → Pt → Prop} (hK : vx_Back l R p e below s args y 3 W9 Pre Post PostX)
    {b : Addr} {cellB : Cell} (hcell : T.heap[b]? = some cellB) (hobj : cellB.vm.isStatics = false) (hcls : s.vm.findClass C = some cellB.cls)
    {g : JFrame} (hg : g.method = m) (hsize : g.locals.size = c.maxLocals) {argsL rest : List Value} (hlen : ∀ sig, parseMethodDescriptor y.desc = some sig → argsL.length = sig.parameters.length)
    (hstack : g.stack = argsL.reverse ++ .ref b :: rest) (hW : 2 * g.monitorRoom + (rest.map fun v => v.category).sum ≤ W9) (hdg : decode c.code g.pc = .ok (.invokevirtual index, 3))
    (hpre : ∀ vm₁, s.WarmedH vm₁ → Pre ⟨T.setVm vm₁, locs, cells, slots⟩ (Value.ref b :: argsL).toArray) :
    (∃ (v : Option Value) (vm₁ : Vm) (B : Pt), s.WarmedH vm₁ ∧ Stand p l e R s m args below meth c B.U B.locs B.cells B.slots ∧ Post ⟨T.setVm vm₁, locs, cells, slots⟩ (Value.ref b :: argsL).toArray v B ∧
      ∀ target, Steps p.tables e below (B.U.setTop { g with pc := g.pc + 3, stack := v.toList ++ rest }) target → Steps p.tables e below (T.setTop g) target) ∨
    (∃ (q : Addr) (vm₁ : Vm) (B : Pt), s.WarmedH vm₁ ∧ Stand p l e R s m args below meth c B.U B.locs B.cells B.slots ∧ PostX ⟨T.setVm vm₁, locs, cells, slots⟩ (Value.ref b :: argsL).toArray q B ∧
      Steps p.tables e below (T.setTop g) ((B.U.setTop { g with stack := rest }).pushFrame (.throwing q))) := by
  obtain ⟨mk, methM, hnamed, hmethM, hstM, habM⟩ := Cond.instanceMethod_spec hinst
  obtain ⟨m8, methM', cM, hn8, hmethM', -, -, -, -, -, -, hsigM⟩ := Cond.codeWith_spec hcode
  cases Option.some.inj (hn8.symm.trans hnamed)
  cases hmethM.symm.trans hmethM'
  obtain ⟨c2, r2, m2, q1, q2, q3, q4, kP, hkP, hkPi⟩ := Cond.selects_spec hsel
  cases hcls.symm.trans q1
  cases (State.methodFound?_of_named hnamed hy).symm.trans q2
  cases hnamed.symm.trans q3
  have hselP : selectMethod e.platform s.vm cellB.cls mk = .method mk := by rw [Launch.admits_selectMethod X.admits]; exact q4
  obtain ⟨vm₁, X₁, hstep₁⟩ := X.invokevirtual hexec hown hlink hnamed hmethM hstM hkP hkPi hy (a := b) (cell := cellB) hcell
    (fun z h => by rw [h] at hobj; cases hobj) hselP hmethM habM hkP hkPi (g := g) hg (argsL := argsL) (rest := rest) (hlen _ hsigM) hstack hdg
  rcases hK m meth c ⟨T.setVm vm₁, locs, cells, slots⟩ { g with stack := rest } (.invokevirtual index) mk (Value.ref b :: argsL).toArray X₁ hg hsize hdg hW (X₁.named hnamed) (hpre vm₁ X₁.warmed) with ⟨v, B, X', hpost, hsteps⟩ | ⟨q, B, X', hpost, hsteps⟩
  · exact Or.inl ⟨v, vm₁, B, X₁.warmed, X', hpost, fun target h => hstep₁ _ fun acts => by rw [doInvoke_state]; exact hsteps.trans h⟩
  · exact Or.inr ⟨q, vm₁, B, X₁.warmed, X', hpost, hstep₁ _ fun acts => by rw [doInvoke_state]; exact hsteps⟩
theorem vx_callSX (X : Stand p l e R s m args below meth c T locs cells slots) (hexec : p.tables.exec = Jvm.exec) {own : String} {index : Nat} {y : MethodName} {bytes : ByteArray} {maxL : Nat} {ret : Option FieldType} {hh : List (Nat × Nat × Nat × Nat)}
    (hown : s.vm.findClass own = some m.cls) (hlink : (Cond.methodLink own index y).before args s = true) (hstat : (Cond.static y).before args s = true) (hinit : (Cond.initialized y.cls).before args s = true)
    (hcode : (Cond.codeWith y bytes maxL ret hh).before args s = true) (hy : y.cls ≠ "java/lang/invoke/MethodHandle" ∧ y.cls ≠ "java/lang/invoke/VarHandle")
    {W9 : Nat} {Pre : Pt → Array Value → Prop} {Post : Pt → Array Value → Option Value → Pt → Prop} {PostX : Pt → Array Value → Addr → Pt → Prop} (hK : vx_Back l R p e below s args y 3 W9 Pre Post PostX)
    {g : JFrame} (hg : g.method = m) (hsize : g.locals.size = c.maxLocals) {argsL rest : List Value} (hlen : ∀ sig, parseMethodDescriptor y.desc = some sig → argsL.length = sig.parameters.length)
    (hstack : g.stack = argsL.reverse ++ rest) (hW : 2 * g.monitorRoom + (rest.map fun v => v.category).sum ≤ W9) (hdg : decode c.code g.pc = .ok (.invokestatic index, 3))
    (hpre : ∀ vm₁, s.WarmedH vm₁ → Pre ⟨T.setVm vm₁, locs, cells, slots⟩ argsL.toArray) :
    (∃ (v : Option Value) (vm₁ : Vm) (B : Pt), s.WarmedH vm₁ ∧ Stand p l e R s m args below meth c B.U B.locs B.cells B.slots ∧ Post ⟨T.setVm vm₁, locs, cells, slots⟩ argsL.toArray v B ∧
      ∀ target, Steps p.tables e below (B.U.setTop { g with pc := g.pc + 3, stack := v.toList ++ rest }) target → Steps p.tables e below (T.setTop g) target) ∨
    (∃ (q : Addr) (vm₁ : Vm) (B : Pt), s.WarmedH vm₁ ∧ Stand p l e R s m args below meth c B.U B.locs B.cells B.slots ∧ PostX ⟨T.setVm vm₁, locs, cells, slots⟩ argsL.toArray q B ∧
      Steps p.tables e below (T.setTop g) ((B.U.setTop { g with stack := rest }).pushFrame (.throwing q))) := by
  obtain ⟨mk, methM, cM, hnamed, hmethM, -, -, -, -, -, -, hsigM⟩ := Cond.codeWith_spec hcode
  have hstatic : methM.isStatic = true := Cond.static_spec hnamed hmethM hstat
  obtain ⟨kP, hkP, -⟩ := className_of_methodNamed hnamed
  have hinitP : kP.init = .initialized := Cond.initialized_spec (findClass_of_methodNamed hnamed) hkP hinit
  obtain ⟨vm₁, X₁, hstep₁⟩ := X.invokestatic hexec hown hlink hnamed hmethM hstatic hkP hinitP hy (g := g) hg (argsL := argsL) (rest := rest) (hlen _ hsigM) hstack hdg
  rcases hK m meth c ⟨T.setVm vm₁, locs, cells, slots⟩ { g with stack := rest } (.invokestatic index) mk argsL.toArray X₁ hg hsize hdg hW (X₁.named hnamed) (hpre vm₁ X₁.warmed) with ⟨v, B, X', hpost, hsteps⟩ | ⟨q, B, X', hpost, hsteps⟩
  · exact Or.inl ⟨v, vm₁, B, X₁.warmed, X', hpost, fun target h => hstep₁ _ fun acts => by rw [doInvoke_state]; exact hsteps.trans h⟩
  · exact Or.inr ⟨q, vm₁, B, X₁.warmed, X', hpost, hstep₁ _ fun acts => by rw [doInvoke_state]; exact hsteps⟩
theorem vx_callVW (X : Stand p l e R s m args below meth c T locs cells slots) (hexec : p.tables.exec = Jvm.exec) {own C : String} {index : Nat} {y : MethodName} {bytes : ByteArray} {maxL : Nat} {ret : Option FieldType} {hh : List (Nat × Nat × Nat × Nat)}
    (hown : s.vm.findClass own = some m.cls) (hlink : (Cond.methodLink own index y).before args s = true) (hinst : (Cond.instanceMethod y).before args s = true) (hsel : (Cond.selects C y y).before args s = true)
    (hcode : (Cond.codeWith y bytes maxL ret hh).before args s = true) (hy : y.cls ≠ "java/lang/invoke/MethodHandle" ∧ y.cls ≠ "java/lang/invoke/VarHandle")
    {W9 : Nat} {Pre : Pt → Array Value → Prop} {Post : Pt → Array Value → Option Value → Pt → Prop} (hK : Back l R p e below s args y 3 W9 Pre Post)
    {b : Addr} {cellB : Cell} (hcell : T.heap[b]? = some cellB) (hobj : cellB.vm.isStatics = false) (hcls : s.vm.findClass C = some cellB.cls)
    {g : JFrame} (hg : g.method = m) (hsize : g.locals.size = c.maxLocals) {argsL rest : List Value} (hlen : ∀ sig, parseMethodDescriptor y.desc = some sig → argsL.length = sig.parameters.length)
    (hstack : g.stack = argsL.reverse ++ .ref b :: rest) (hW : 2 * g.monitorRoom + (rest.map fun v => v.category).sum ≤ W9) (hdg : decode c.code g.pc = .ok (.invokevirtual index, 3))
    (hpre : ∀ vm₁, s.WarmedH vm₁ → Pre ⟨T.setVm vm₁, locs, cells, slots⟩ (Value.ref b :: argsL).toArray) :
    ∃ (v : Option Value) (vm₁ : Vm) (B : Pt), s.WarmedH vm₁ ∧ Stand p l e R s m args below meth c B.U B.locs B.cells B.slots ∧ Post ⟨T.setVm vm₁, locs, cells, slots⟩ (Value.ref b :: argsL).toArray v B ∧
      ∀ target, Steps p.tables e below (B.U.setTop { g with pc := g.pc + 3, stack := v.toList ++ rest }) target → Steps p.tables e below (T.setTop g) target := by
  obtain ⟨mk, methM, hnamed, hmethM, hstM, habM⟩ := Cond.instanceMethod_spec hinst
  obtain ⟨m8, methM', cM, hn8, hmethM', -, -, -, -, -, -, hsigM⟩ := Cond.codeWith_spec hcode
  cases Option.some.inj (hn8.symm.trans hnamed)
  cases hmethM.symm.trans hmethM'
  obtain ⟨c2, r2, m2, q1, q2, q3, q4, kP, hkP, hkPi⟩ := Cond.selects_spec hsel
  cases hcls.symm.trans q1
  cases (State.methodFound?_of_named hnamed hy).symm.trans q2
  cases hnamed.symm.trans q3
  have hselP : selectMethod e.platform s.vm cellB.cls mk = .method mk := by rw [Launch.admits_selectMethod X.admits]; exact q4
  obtain ⟨vm₁, X₁, hstep₁⟩ := X.invokevirtual hexec hown hlink hnamed hmethM hstM hkP hkPi hy (a := b) (cell := cellB) hcell
    (fun z h => by rw [h] at hobj; cases hobj) hselP hmethM habM hkP hkPi (g := g) hg (argsL := argsL) (rest := rest) (hlen _ hsigM) hstack hdg
  obtain ⟨v, B, X', hpost, hsteps⟩ := hK m meth c ⟨T.setVm vm₁, locs, cells, slots⟩ { g with stack := rest } (.invokevirtual index) mk (Value.ref b :: argsL).toArray X₁ hg hsize hdg hW (X₁.named hnamed) (hpre vm₁ X₁.warmed)
  exact ⟨v, vm₁, B, X₁.warmed, X', hpost, fun target h => hstep₁ _ fun acts => by rw [doInvoke_state]; exact hsteps.trans h⟩
abbrev vx_CVW (R : Room) (s : State) (args : Array Value) (own C : String) (index : Nat) (y : MethodName) (bytes : ByteArray) (maxL : Nat) (ret : Option FieldType) (hh : List (Nat × Nat × Nat × Nat)) (ws : List Cond) (rm : Room) (mc ms n : Nat) : Prop :=
  (rm.cells = mc ∧ rm.slots = ms ∧ rm.frames + 1 ≤ R.frames ∧ 8 + (maxL + 11) + rm.locals ≤ R.locals ∧ (∀ w ∈ ws, ∀ (a' : Array Value) (U : State), s.WarmedH U.vm → w.before a' U = true) ∧ Cond.codeWith y bytes maxL ret hh ∈ ws) ∧
  (Cond.codeWith y bytes maxL ret hh).before args s = true ∧ (Cond.initialized y.cls).before args s = true ∧ (y.cls ≠ "java/lang/invoke/MethodHandle" ∧ y.cls ≠ "java/lang/invoke/VarHandle") ∧
  (∀ sig, parseMethodDescriptor y.desc = some sig → n = sig.parameters.length) ∧ (Cond.methodLink own index y).before args s = true ∧ (Cond.instanceMethod y).before args s = true ∧ (Cond.selects C y y).before args s = true
theorem vx_cwVW {own C : String} {index maxL mc ms : Nat} {y : MethodName} {bytes : ByteArray} {ret : Option FieldType} {hh : List (Nat × Nat × Nat × Nat)} {Ts ws ws' : List Cond} {rm : Room} (n : Nat) (ht : ∀ w ∈ Ts, w.before args s = true) (hT : GoodIn Ts (wsV own index C y ws)) (hw : ws = Cond.codeWith y bytes maxL ret hh :: ws') (hrc : rm.cells = mc) (hrs : rm.slots = ms)
    (hd : y.cls = C ∧ y.cls ≠ "java/lang/invoke/MethodHandle" ∧ y.cls ≠ "java/lang/invoke/VarHandle" ∧ (parseMethodDescriptor y.desc).map (fun d => d.parameters.length) = some n) (hR : rm.frames + 1 ≤ R.frames ∧ 8 + (maxL + 11) + rm.locals ≤ R.locals) :
    vx_CVW R s args own C index y bytes maxL ret hh ws rm mc ms n := by
  obtain ⟨hC, hd⟩ := hd
  subst hC
  have ok : ∀ w ∈ wsV own index y.cls y ws, w.before args s = true := fun w h => ht w (hT w h).1
  have hG : GoodIn Ts ws := fun w h => hT w (by unfold wsV; exact List.mem_append_right _ h)
  have hc : Cond.codeWith y bytes maxL ret hh ∈ ws := by rw [hw]; exact List.mem_cons_self
  refine ⟨⟨hrc, hrs, hR.1, hR.2, pay_in ht hG, hc⟩, ht _ (hG _ hc).1, ok _ (by simp [wsV]), ⟨hd.1, hd.2.1⟩, fun sig h => ?_, ok _ (by simp [wsV]), ok _ (by simp [wsV]), ok _ (by simp [wsV])⟩
  have h2 := hd.2.2
  rw [h] at h2
  exact (Option.some.inj h2).symm
theorem vx_runVW {y : MethodName} {bytes cc : ByteArray} {maxL nL mc ms n index : Nat} {ret : Option FieldType} {hh : List (Nat × Nat × Nat × Nat)} {ws : List Cond} {rm : Room} {Pc : Array Value → State → Prop} {Qc : Array Value → State → Outcome → State → Prop} {free : Addr → Prop} {Ts : List Cond} {own C : String} {b : Addr} {As rest : List Value} {g : JFrame}
    (S : CallFix p m c cc nL s args Ts own) (hM : Met l y ws rm Pc Qc mc ms free) (cw : vx_CVW R s args own C index y bytes maxL ret hh ws rm mc ms n) (hp : PreV s H C b Pc As)
    (hg : g.method = m) (hn : As.length = n) (hsize : g.locals.size = nL) (hstack : g.stack = As.reverse ++ .ref b :: rest) (hW : 2 * g.monitorRoom + (rest.map fun v => v.category).sum ≤ 8) (hdg : decode cc g.pc = .ok (.invokevirtual index, 3)) (hf : cells + mc ≤ R.cells ∧ slots + ms ≤ R.slots) :
    va_Run p l e R s m args below meth c H locs cells slots mc ms g rest (Qc (Value.ref b :: As).toArray) free := by
  obtain ⟨⟨hrc, hrs, hfr, hlo, hws, hcw⟩, hcode, hini, hy, hlen, hl, hin, hse⟩ := cw
  have hK : Back l R p e below s args y 3 8 (PreOf R mc ms Pc) (PostOf Qc mc ms free) := va_backW (hh := hh) (bytes := bytes) (maxL := maxL) (ret := ret) hM hp.1 hrc hrs hfr hlo hws hcw (fun a' U hW => word_at hW (Or.inl (by first | rfl | simp [Cond.onTables, Cond.keeps, Cond.steady])) hini)
  obtain ⟨hx, hb, hml, ho, -⟩ := S
  obtain ⟨-, ⟨cellB, hcB, hoB, hclB⟩, hPc⟩ := hp
  intro T hT X
  obtain ⟨v, vm₁, ⟨U', l2, c2, s2⟩, hW₁, X', ⟨g', mk, t, L, e1, e2, hq, h1, hL, h2, h3⟩, st⟩ := vx_callVW X hx (C := C) (hh := hh) (bytes := bytes) (maxL := maxL) (ret := ret) ho hl hin hse hcode hy hK (by rw [hT]; exact hcB) hoB hclB hg (hsize.trans hml.symm) (argsL := As) (rest := rest) (fun sig h => hn.trans (hlen sig h)) hstack hW (by rw [hb]; exact hdg)
    (fun vm₁ hW₁ => ⟨hf.1, hf.2, hPc (T.setVm vm₁) hT hW₁⟩)
  dsimp only [Pt.U, Pt.locs, Pt.cells, Pt.slots] at X' e1 e2 h1 h2 h3 st
  subst h1; subst h2; subst h3
  exact ⟨v, (T.setVm vm₁).calling g' mk (Value.ref b :: As).toArray, t, U', L, hT, X', hL, e1, e2, hq, st⟩
section
variable {y : MethodName} {bytes cc : ByteArray} {maxL nL mc ms n index : Nat} {ret : Option FieldType} {ws : List Cond} {rm : Room} {Pc : Array Value → State → Prop} {Qc : Array Value → State → Outcome → State → Prop} {XC : String → State → State → Prop} {free : Addr → Prop} {Ts : List Cond} {own C : String} {b : Addr} {As rest : List Value} {g : JFrame}
theorem vx_runVX {hh : List (Nat × Nat × Nat × Nat)} (S : CallFix p m c cc nL s args Ts own) (hM : vx_Met l y ws rm Pc Qc XC mc ms free) (cw : vx_CVW R s args own C index y bytes maxL ret hh ws rm mc ms n) (hp : PreV s H C b Pc As)
    (hg : g.method = m) (hn : As.length = n) (hsize : g.locals.size = nL) (hstack : g.stack = As.reverse ++ .ref b :: rest) (hW : 2 * g.monitorRoom + (rest.map fun v => v.category).sum ≤ 8) (hdg : decode cc g.pc = .ok (.invokevirtual index, 3)) (hf : cells + mc ≤ R.cells ∧ slots + ms ≤ R.slots) :
    vx_Run p l e R s m args below meth c H locs cells slots mc ms g rest (Qc (Value.ref b :: As).toArray) XC free := by
  obtain ⟨⟨hrc, hrs, hfr, hlo, hws, hcw⟩, hcode, hini, hy, hlen, hl, hin, hse⟩ := cw
  have hK : vx_Back l R p e below s args y 3 8 (PreOf R mc ms Pc) (PostOf Qc mc ms free) (vx_Post XC mc ms free) := vx_backW (hh := hh) (bytes := bytes) (maxL := maxL) (ret := ret) hM hp.1 hrc hrs hfr hlo hws hcw (fun a' U hW => word_at hW (Or.inl (by first | rfl | simp [Cond.onTables, Cond.keeps, Cond.steady])) hini)
  obtain ⟨hx, hb, hml, ho, -⟩ := S
  obtain ⟨-, ⟨cellB, hcB, hoB, hclB⟩, hPc⟩ := hp
  intro T hT X
  rcases vx_callVX X hx (C := C) (hh := hh) (bytes := bytes) (maxL := maxL) (ret := ret) ho hl hin hse hcode hy hK (by rw [hT]; exact hcB) hoB hclB hg (hsize.trans hml.symm) (argsL := As) (rest := rest) (fun sig h => hn.trans (hlen sig h)) hstack hW (by rw [hb]; exact hdg)
    (fun vm₁ hW₁ => ⟨hf.1, hf.2, hPc (T.setVm vm₁) hT hW₁⟩) with ⟨v, vm₁, ⟨U', l2, c2, s2⟩, hW₁, X', ⟨g', mk, t, L, e1, e2, hq, h1, hL, h2, h3⟩, st⟩ | ⟨q, vm₁, ⟨U', l2, c2, s2⟩, hW₁, X', ⟨g', mk, t, L, E, ce, e1, e2, hq, hce, hcv, hcl, h1, hL, h2, h3⟩, st⟩
  · dsimp only [Pt.U, Pt.locs, Pt.cells, Pt.slots] at X' e1 e2 h1 h2 h3 st
    subst h1; subst h2; subst h3
    exact Or.inl ⟨v, (T.setVm vm₁).calling g' mk (Value.ref b :: As).toArray, t, U', L, hT, X', hL, e1, e2, hq, st⟩
  · dsimp only [Pt.U, Pt.locs, Pt.cells, Pt.slots] at X' e1 e2 h1 h2 h3 st hcl
    subst h1; subst h2; subst h3
    exact Or.inr ⟨q, (T.setVm vm₁).calling g' mk (Value.ref b :: As).toArray, t, U', L, E, ce, hT, X', hL, e1, e2, hq, hce, hcv, vx_cls hW₁ hcl, st⟩
theorem vx_runSX {hh : List (Nat × Nat × Nat × Nat)} (S : CallFix p m c cc nL s args Ts own) (hM : vx_Met l y ws rm Pc Qc XC mc ms free) (cw : vx_CSW R s args own index y bytes maxL ret hh ws rm mc ms n) (hp : PreS s H Pc As)
    (hg : g.method = m) (hn : As.length = n) (hsize : g.locals.size = nL) (hstack : g.stack = As.reverse ++ rest) (hW : 2 * g.monitorRoom + (rest.map fun v => v.category).sum ≤ 8) (hdg : decode cc g.pc = .ok (.invokestatic index, 3)) (hf : cells + mc ≤ R.cells ∧ slots + ms ≤ R.slots) :
    vx_Run p l e R s m args below meth c H locs cells slots mc ms g rest (Qc As.toArray) XC free := by
  obtain ⟨⟨hrc, hrs, hfr, hlo, hws, hcw⟩, hcode, hini, hy, hlen, hl, hstt⟩ := cw
  have hK : vx_Back l R p e below s args y 3 8 (PreOf R mc ms Pc) (PostOf Qc mc ms free) (vx_Post XC mc ms free) := vx_backW (hh := hh) (bytes := bytes) (maxL := maxL) (ret := ret) hM hp.1 hrc hrs hfr hlo hws hcw (fun a' U hW => word_at hW (Or.inl (by first | rfl | simp [Cond.onTables, Cond.keeps, Cond.steady])) hini)
  obtain ⟨hx, hb, hml, ho, -⟩ := S
  intro T hT X
  rcases vx_callSX X hx (hh := hh) (bytes := bytes) (maxL := maxL) (ret := ret) ho hl hstt hini hcode hy hK hg (hsize.trans hml.symm) (argsL := As) (rest := rest) (fun sig h => hn.trans (hlen sig h)) hstack hW (by rw [hb]; exact hdg)
    (fun vm₁ hW₁ => ⟨hf.1, hf.2, hp.2 (T.setVm vm₁) hT hW₁⟩) with ⟨v, vm₁, ⟨U', l2, c2, s2⟩, hW₁, X', ⟨g', mk, t, L, e1, e2, hq, h1, hL, h2, h3⟩, st⟩ | ⟨q, vm₁, ⟨U', l2, c2, s2⟩, hW₁, X', ⟨g', mk, t, L, E, ce, e1, e2, hq, hce, hcv, hcl, h1, hL, h2, h3⟩, st⟩
  · dsimp only [Pt.U, Pt.locs, Pt.cells, Pt.slots] at X' e1 e2 h1 h2 h3 st
    subst h1; subst h2; subst h3
    exact Or.inl ⟨v, (T.setVm vm₁).calling g' mk As.toArray, t, U', L, hT, X', hL, e1, e2, hq, st⟩
  · dsimp only [Pt.U, Pt.locs, Pt.cells, Pt.slots] at X' e1 e2 h1 h2 h3 st hcl
    subst h1; subst h2; subst h3
    exact Or.inr ⟨q, (T.setVm vm₁).calling g' mk As.toArray, t, U', L, E, ce, hT, X', hL, e1, e2, hq, hce, hcv, vx_cls hW₁ hcl, st⟩
end
end VXH
theorem vx_ofWH {l : Launch} {y : MethodName} {ws ws' : List Cond} {rm : Room} {Pc : Array Value → State → Prop} {Qc : Array Value → State → Outcome → State → Prop} {XC : String → State → State → Prop} {mc ms : Nat} {free : Addr → Prop} {cc : ByteArray} {maxL : Nat} {ret : Option FieldType} {hh : List (Nat × Nat × Nat × Nat)}
    (hy : plainName y.cls = true) (hw : ws = Cond.codeWith y cc maxL ret hh :: ws')
    (body : ∀ p e s m args below meth c s₁, BodyLoose p l y (headSpec ws rm) cc maxL ret e s m args below meth c s₁ → c.maxLocals = maxL → Pc args s →
      W p l e (headSpec ws rm).room s m args below meth c s.heap [] 0 0 (vx_MQ below Qc XC args s mc ms free) (entryFrame m args maxL)) : vx_Met l y ws rm Pc Qc XC mc ms free := by
  refine MetFree.of_bodyS (code := cc) (maxLocals := maxL) (ret := ret) hy ?_ ?_
  · intro args s m h hn
    obtain ⟨m9, meth, c, hn9, h1, h2, h3, h4, -, h5, h6, -⟩ := Cond.codeWith_spec (atoms_spec (ws := ws) h _ (by rw [hw]; exact List.mem_cons_self))
    cases hn.symm.trans hn9
    exact ⟨meth, c, h1, h2, h3, h4, h5, h6⟩
  · intro p e s m args below meth c s₁ B hml hP _
    have hh0 : s₁.heap = s.heap := by rw [B.state]; rfl
    obtain ⟨t, a1, o, b1, b2, b3⟩ := body p e s m args below meth c s₁ B hml hP s₁ hh0 (Stand.of_body B)
    exact ⟨t, o, a1, b1, b2, b3⟩
/-! ===== END ===== -/
end
section
/-! ===== BEGIN printed: names, fields, word lists, decode rows ===== -/
def RX0 : String := "DesiredStateKeeper$Code"
def TX0 : u_T := fun k => match k with
  | _ => ("", "", "", false)
def tyX0 : Nat → FieldType := fun k => match k with
  | _ => .int
abbrev wsX00 : List Cond := u_ws RX0 TX0 0
theorem nmX0 : ∀ a, a < 0 → ∀ b, b < 0 → a ≠ b → (TX0 a).2.1 ≠ (TX0 b).2.1 := by decide +kernel
theorem tyX0_ok : ∀ k, k < 0 → parseFieldDescriptor (TX0 k).2.2.1 = some (tyX0 k) := by decide +kernel
abbrev cX0_versionIn : ByteArray := prog_2_method_2_code
def yX0_versionIn : MethodName := ⟨RX0, "versionIn", "(II)I"⟩
abbrev cX0_with : ByteArray := prog_2_method_3_code
def yX0_with : MethodName := ⟨RX0, "with", "(III)I"⟩
abbrev cX0_change : ByteArray := prog_2_method_4_code
def yX0_change : MethodName := ⟨RX0, "change", "(II)I"⟩
def RX1 : String := "DesiredStateKeeper$Command"
def TX1 : u_T := fun k => match k with
  | _ => ("", "", "", false)
def tyX1 : Nat → FieldType := fun k => match k with
  | _ => .int
abbrev wsX10 : List Cond := u_ws RX1 TX1 0
theorem nmX1 : ∀ a, a < 0 → ∀ b, b < 0 → a ≠ b → (TX1 a).2.1 ≠ (TX1 b).2.1 := by decide +kernel
theorem tyX1_ok : ∀ k, k < 0 → parseFieldDescriptor (TX1 k).2.2.1 = some (tyX1 k) := by decide +kernel
abbrev cX1_succeeds : ByteArray := prog_3_method_2_code
def yX1_succeeds : MethodName := ⟨RX1, "succeeds", "(LDesiredStateKeeper$State;I)Z"⟩
abbrev cX1_setVersion : ByteArray := prog_3_method_3_code
def yX1_setVersion : MethodName := ⟨RX1, "setVersion", "(LDesiredStateKeeper$Plan;[IIII)Z"⟩
abbrev cX1_addApproval : ByteArray := prog_3_method_4_code
def yX1_addApproval : MethodName := ⟨RX1, "addApproval", "(LDesiredStateKeeper$State;III)Z"⟩
abbrev cX1_giveFaults : ByteArray := prog_3_method_5_code
def yX1_giveFaults : MethodName := ⟨RX1, "giveFaults", "(LDesiredStateKeeper$State;II)Z"⟩
def RX2 : String := "DesiredStateKeeper$Memory"
def TX2 : u_T := fun k => match k with
  | 0 => ("DesiredStateKeeper$Memory", "states", "[LDesiredStateKeeper$State;", true)
  | 1 => ("DesiredStateKeeper$Memory", "newest", "I", false)
  | _ => ("DesiredStateKeeper$Memory", "count", "I", false)
def tyX2 : Nat → FieldType := fun k => match k with
  | 0 => .array (.object "DesiredStateKeeper$State")
  | 1 => .int
  | _ => .int
abbrev wsX20 : List Cond := u_ws RX2 TX2 3
theorem nmX2 : ∀ a, a < 3 → ∀ b, b < 3 → a ≠ b → (TX2 a).2.1 ≠ (TX2 b).2.1 := by decide +kernel
theorem tyX2_ok : ∀ k, k < 3 → parseFieldDescriptor (TX2 k).2.2.1 = some (tyX2 k) := by decide +kernel
abbrev cX2_init : ByteArray := prog_4_method_1_code
def yX2_init : MethodName := ⟨RX2, "<init>", "(LDesiredStateKeeper$Plan;)V"⟩
abbrev cX2_forget : ByteArray := prog_4_method_2_code
def yX2_forget : MethodName := ⟨RX2, "forget", "()V"⟩
abbrev cX2_remember : ByteArray := prog_4_method_3_code
def yX2_remember : MethodName := ⟨RX2, "remember", "(LDesiredStateKeeper$State;)V"⟩
abbrev cX2_takeBack : ByteArray := prog_4_method_4_code
def yX2_takeBack : MethodName := ⟨RX2, "takeBack", "(LDesiredStateKeeper$State;)V"⟩
def RX3 : String := "DesiredStateKeeper$Plan"
def TX3 : u_T := fun k => match k with
  | 0 => ("DesiredStateKeeper$Plan", "nodes", "I", false)
  | 1 => ("DesiredStateKeeper$Plan", "components", "I", false)
  | 2 => ("DesiredStateKeeper$Plan", "limit", "I", false)
  | 3 => ("DesiredStateKeeper$Plan", "length", "I", false)
  | 4 => ("DesiredStateKeeper$Plan", "rings", "[I", true)
  | _ => ("DesiredStateKeeper$Plan", "rules", "LDesiredStateKeeper$RuleBook;", true)
def tyX3 : Nat → FieldType := fun k => match k with
  | 0 => .int
  | 1 => .int
  | 2 => .int
  | 3 => .int
  | 4 => .array .int
  | _ => .object "DesiredStateKeeper$RuleBook"
abbrev wsX30 : List Cond := u_ws RX3 TX3 6
theorem nmX3 : ∀ a, a < 6 → ∀ b, b < 6 → a ≠ b → (TX3 a).2.1 ≠ (TX3 b).2.1 := by decide +kernel
theorem tyX3_ok : ∀ k, k < 6 → parseFieldDescriptor (TX3 k).2.2.1 = some (tyX3 k) := by decide +kernel
abbrev cX3_init : ByteArray := prog_5_method_1_code
def yX3_init : MethodName := ⟨RX3, "<init>", "()V"⟩
abbrev cX3_take : ByteArray := prog_5_method_2_code
def yX3_take : MethodName := ⟨RX3, "take", "(LDesiredStateKeeper$TextReader;)V"⟩
abbrev cX3_has : ByteArray := prog_5_method_3_code
def yX3_has : MethodName := ⟨RX3, "has", "(II)Z"⟩
def RX4 : String := "DesiredStateKeeper$RuleBook"
def TX4 : u_T := fun k => match k with
  | 0 => ("DesiredStateKeeper$RuleBook", "parts", "[I", true)
  | 1 => ("DesiredStateKeeper$RuleBook", "brokenBy", "[I", true)
  | 2 => ("DesiredStateKeeper$RuleBook", "codes", "I", false)
  | _ => ("DesiredStateKeeper$RuleBook", "count", "I", false)
def tyX4 : Nat → FieldType := fun k => match k with
  | 0 => .array .int
  | 1 => .array .int
  | 2 => .int
  | _ => .int
abbrev wsX40 : List Cond := u_ws RX4 TX4 4
theorem nmX4 : ∀ a, a < 4 → ∀ b, b < 4 → a ≠ b → (TX4 a).2.1 ≠ (TX4 b).2.1 := by decide +kernel
theorem tyX4_ok : ∀ k, k < 4 → parseFieldDescriptor (TX4 k).2.2.1 = some (tyX4 k) := by decide +kernel
abbrev cX4_init : ByteArray := prog_6_method_1_code
def yX4_init : MethodName := ⟨RX4, "<init>", "()V"⟩
abbrev cX4_clear : ByteArray := prog_6_method_2_code
def yX4_clear : MethodName := ⟨RX4, "clear", "(I)V"⟩
abbrev cX4_add : ByteArray := prog_6_method_3_code
def yX4_add : MethodName := ⟨RX4, "add", "([II)V"⟩
abbrev cX4_part : ByteArray := prog_6_method_4_code
def yX4_part : MethodName := ⟨RX4, "part", "(II)I"⟩
abbrev cX4_isBroken : ByteArray := prog_6_method_5_code
def yX4_isBroken : MethodName := ⟨RX4, "isBroken", "(II)Z"⟩
abbrev cX4_brokenOn : ByteArray := prog_6_method_6_code
def yX4_brokenOn : MethodName := ⟨RX4, "brokenOn", "(I)I"⟩
abbrev cX4_newlyBroken : ByteArray := prog_6_method_7_code
def yX4_newlyBroken : MethodName := ⟨RX4, "newlyBroken", "(II)I"⟩
abbrev cX4_leastWithNeeds : ByteArray := prog_6_method_8_code
def yX4_leastWithNeeds : MethodName := ⟨RX4, "leastWithNeeds", "(I)I"⟩
abbrev cX4_raisedByNeeds : ByteArray := prog_6_method_9_code
def yX4_raisedByNeeds : MethodName := ⟨RX4, "raisedByNeeds", "(I)I"⟩
abbrev cX4_allow : ByteArray := prog_6_method_10_code
def yX4_allow : MethodName := ⟨RX4, "allow", "(II)Z"⟩
def RX5 : String := "DesiredStateKeeper$State"
def TX5 : u_T := fun k => match k with
  | 0 => ("DesiredStateKeeper$State", "plan", "LDesiredStateKeeper$Plan;", true)
  | 1 => ("DesiredStateKeeper$State", "present", "[I", true)
  | 2 => ("DesiredStateKeeper$State", "wished", "[I", true)
  | 3 => ("DesiredStateKeeper$State", "faults", "[I", true)
  | 4 => ("DesiredStateKeeper$State", "strikes", "[I", true)
  | 5 => ("DesiredStateKeeper$State", "quarantineEnds", "[I", true)
  | 6 => ("DesiredStateKeeper$State", "quorums", "[I", true)
  | 7 => ("DesiredStateKeeper$State", "approvers", "[I", true)
  | 8 => ("DesiredStateKeeper$State", "time", "I", false)
  | _ => ("DesiredStateKeeper$State", "changes", "I", false)
def tyX5 : Nat → FieldType := fun k => match k with
  | 0 => .object "DesiredStateKeeper$Plan"
  | 1 => .array .int
  | 2 => .array .int
  | 3 => .array .int
  | 4 => .array .int
  | 5 => .array .int
  | 6 => .array .int
  | 7 => .array .int
  | 8 => .int
  | _ => .int
abbrev wsX50 : List Cond := u_ws RX5 TX5 10
theorem nmX5 : ∀ a, a < 10 → ∀ b, b < 10 → a ≠ b → (TX5 a).2.1 ≠ (TX5 b).2.1 := by decide +kernel
theorem tyX5_ok : ∀ k, k < 10 → parseFieldDescriptor (TX5 k).2.2.1 = some (tyX5 k) := by decide +kernel
abbrev cX5_init : ByteArray := prog_7_method_1_code
def yX5_init : MethodName := ⟨RX5, "<init>", "(LDesiredStateKeeper$Plan;)V"⟩
abbrev cX5_copy : ByteArray := prog_7_method_2_code
def yX5_copy : MethodName := ⟨RX5, "copy", "(LDesiredStateKeeper$State;)V"⟩
abbrev cX5_take : ByteArray := prog_7_method_3_code
def yX5_take : MethodName := ⟨RX5, "take", "(LDesiredStateKeeper$TextReader;)V"⟩
abbrev cX5_isQuarantined : ByteArray := prog_7_method_4_code
def yX5_isQuarantined : MethodName := ⟨RX5, "isQuarantined", "(I)Z"⟩
abbrev cX5_isDrifted : ByteArray := prog_7_method_5_code
def yX5_isDrifted : MethodName := ⟨RX5, "isDrifted", "(II)Z"⟩
abbrev cX5_driftedOn : ByteArray := prog_7_method_6_code
def yX5_driftedOn : MethodName := ⟨RX5, "driftedOn", "(I)I"⟩
abbrev cX5_driftedNodes : ByteArray := prog_7_method_7_code
def yX5_driftedNodes : MethodName := ⟨RX5, "driftedNodes", "()I"⟩
abbrev cX5_calmNodes : ByteArray := prog_7_method_8_code
def yX5_calmNodes : MethodName := ⟨RX5, "calmNodes", "()I"⟩
abbrev cX5_digestOf : ByteArray := prog_7_method_9_code
def yX5_digestOf : MethodName := ⟨RX5, "digestOf", "(I)I"⟩
abbrev cX5_numberOf : ByteArray := prog_7_method_10_code
def yX5_numberOf : MethodName := ⟨RX5, "numberOf", "(II)I"⟩
abbrev cX5_stateOf : ByteArray := prog_7_method_11_code
def yX5_stateOf : MethodName := ⟨RX5, "stateOf", "(II)I"⟩
abbrev cX5_missingTo : ByteArray := prog_7_method_12_code
def yX5_missingTo : MethodName := ⟨RX5, "missingTo", "(II)I"⟩
abbrev cX5_isDriftedBelow : ByteArray := prog_7_method_13_code
def yX5_isDriftedBelow : MethodName := ⟨RX5, "isDriftedBelow", "(II)Z"⟩
abbrev cX5_brokenByWish : ByteArray := prog_7_method_14_code
def yX5_brokenByWish : MethodName := ⟨RX5, "brokenByWish", "(II)I"⟩
abbrev cX5_readyOn : ByteArray := prog_7_method_15_code
def yX5_readyOn : MethodName := ⟨RX5, "readyOn", "(I)I"⟩
abbrev cX5_passTicks : ByteArray := prog_7_method_16_code
def yX5_passTicks : MethodName := ⟨RX5, "passTicks", "(I)V"⟩
abbrev cX5_attempt : ByteArray := prog_7_method_17_code
def yX5_attempt : MethodName := ⟨RX5, "attempt", "(II)V"⟩
abbrev cX5_pairsHeldUpBy : ByteArray := prog_7_method_18_code
def yX5_pairsHeldUpBy : MethodName := ⟨RX5, "pairsHeldUpBy", "(I)I"⟩
abbrev cX5_missingApprovals : ByteArray := prog_7_method_19_code
def yX5_missingApprovals : MethodName := ⟨RX5, "missingApprovals", "(I)I"⟩
abbrev cX5_isAwaited : ByteArray := prog_7_method_20_code
def yX5_isAwaited : MethodName := ⟨RX5, "isAwaited", "(II)Z"⟩
abbrev cX5_changesTo : ByteArray := prog_7_method_21_code
def yX5_changesTo : MethodName := ⟨RX5, "changesTo", "(II)I"⟩
abbrev cX5_rankOf : ByteArray := prog_7_method_22_code
def yX5_rankOf : MethodName := ⟨RX5, "rankOf", "(I)I"⟩
abbrev cX5_isFarther : ByteArray := prog_7_method_23_code
def yX5_isFarther : MethodName := ⟨RX5, "isFarther", "(II)Z"⟩
abbrev cX5_disturb : ByteArray := prog_7_method_24_code
def yX5_disturb : MethodName := ⟨RX5, "disturb", "(I)V"⟩
def RX6 : String := "DesiredStateKeeper$TextReader"
def TX6 : u_T := fun k => match k with
  | 0 => ("DesiredStateKeeper$TextReader", "nodes", "I", false)
  | 1 => ("DesiredStateKeeper$TextReader", "components", "I", false)
  | 2 => ("DesiredStateKeeper$TextReader", "limit", "I", false)
  | 3 => ("DesiredStateKeeper$TextReader", "length", "I", false)
  | 4 => ("DesiredStateKeeper$TextReader", "ruleCount", "I", false)
  | 5 => ("DesiredStateKeeper$TextReader", "rings", "[I", true)
  | 6 => ("DesiredStateKeeper$TextReader", "quorums", "[I", true)
  | 7 => ("DesiredStateKeeper$TextReader", "rules", "[I", true)
  | 8 => ("DesiredStateKeeper$TextReader", "present", "[I", true)
  | 9 => ("DesiredStateKeeper$TextReader", "wished", "[I", true)
  | 10 => ("DesiredStateKeeper$TextReader", "text", "[C", true)
  | 11 => ("DesiredStateKeeper$TextReader", "end", "I", false)
  | 12 => ("DesiredStateKeeper$TextReader", "position", "I", false)
  | _ => ("DesiredStateKeeper$TextReader", "failed", "Z", false)
def tyX6 : Nat → FieldType := fun k => match k with
  | 0 => .int
  | 1 => .int
  | 2 => .int
  | 3 => .int
  | 4 => .int
  | 5 => .array .int
  | 6 => .array .int
  | 7 => .array .int
  | 8 => .array .int
  | 9 => .array .int
  | 10 => .array .char
  | 11 => .int
  | 12 => .int
  | _ => .boolean
abbrev wsX60 : List Cond := u_ws RX6 TX6 14
theorem nmX6 : ∀ a, a < 14 → ∀ b, b < 14 → a ≠ b → (TX6 a).2.1 ≠ (TX6 b).2.1 := by decide +kernel
theorem tyX6_ok : ∀ k, k < 14 → parseFieldDescriptor (TX6 k).2.2.1 = some (tyX6 k) := by decide +kernel
abbrev cX6_init : ByteArray := prog_8_method_1_code
def yX6_init : MethodName := ⟨RX6, "<init>", "([C)V"⟩
abbrev cX6_read : ByteArray := prog_8_method_2_code
def yX6_read : MethodName := ⟨RX6, "read", "(I)I"⟩
abbrev cX6_readHead : ByteArray := prog_8_method_3_code
def yX6_readHead : MethodName := ⟨RX6, "readHead", "()V"⟩
abbrev cX6_readItems : ByteArray := prog_8_method_4_code
def yX6_readItems : MethodName := ⟨RX6, "readItems", "()V"⟩
abbrev cX6_readItem : ByteArray := prog_8_method_5_code
def yX6_readItem : MethodName := ⟨RX6, "readItem", "(C)V"⟩
abbrev cX6_readRule : ByteArray := prog_8_method_6_code
def yX6_readRule : MethodName := ⟨RX6, "readRule", "(I)V"⟩
abbrev cX6_readVersion : ByteArray := prog_8_method_7_code
def yX6_readVersion : MethodName := ⟨RX6, "readVersion", "([I)V"⟩
abbrev cX6_readLetter : ByteArray := prog_8_method_8_code
def yX6_readLetter : MethodName := ⟨RX6, "readLetter", "(C)V"⟩
abbrev cX6_readDigit : ByteArray := prog_8_method_9_code
def yX6_readDigit : MethodName := ⟨RX6, "readDigit", "(II)I"⟩
abbrev cX6_readDigitBut : ByteArray := prog_8_method_10_code
def yX6_readDigitBut : MethodName := ⟨RX6, "readDigitBut", "(II)I"⟩
def RX7 : String := "DesiredStateKeeper$Ways"
def TX7 : u_T := fun k => match k with
  | 0 => ("DesiredStateKeeper$Ways", "plan", "LDesiredStateKeeper$Plan;", true)
  | 1 => ("DesiredStateKeeper$Ways", "distances", "[I", true)
  | 2 => ("DesiredStateKeeper$Ways", "queue", "[I", true)
  | 3 => ("DesiredStateKeeper$Ways", "goal", "I", false)
  | 4 => ("DesiredStateKeeper$Ways", "head", "I", false)
  | _ => ("DesiredStateKeeper$Ways", "tail", "I", false)
def tyX7 : Nat → FieldType := fun k => match k with
  | 0 => .object "DesiredStateKeeper$Plan"
  | 1 => .array .int
  | 2 => .array .int
  | 3 => .int
  | 4 => .int
  | _ => .int
abbrev wsX70 : List Cond := u_ws RX7 TX7 6
theorem nmX7 : ∀ a, a < 6 → ∀ b, b < 6 → a ≠ b → (TX7 a).2.1 ≠ (TX7 b).2.1 := by decide +kernel
theorem tyX7_ok : ∀ k, k < 6 → parseFieldDescriptor (TX7 k).2.2.1 = some (tyX7 k) := by decide +kernel
abbrev cX7_init : ByteArray := prog_9_method_1_code
def yX7_init : MethodName := ⟨RX7, "<init>", "(LDesiredStateKeeper$Plan;)V"⟩
abbrev cX7_forget : ByteArray := prog_9_method_2_code
def yX7_forget : MethodName := ⟨RX7, "forget", "()V"⟩
abbrev cX7_distance : ByteArray := prog_9_method_3_code
def yX7_distance : MethodName := ⟨RX7, "distance", "(II)I"⟩
abbrev cX7_aimAt : ByteArray := prog_9_method_4_code
def yX7_aimAt : MethodName := ⟨RX7, "aimAt", "(I)V"⟩
abbrev cX7_distanceOf : ByteArray := prog_9_method_5_code
def yX7_distanceOf : MethodName := ⟨RX7, "distanceOf", "(I)I"⟩
abbrev cX7_enqueue : ByteArray := prog_9_method_6_code
def yX7_enqueue : MethodName := ⟨RX7, "enqueue", "(II)V"⟩
abbrev cX7_reachFrom : ByteArray := prog_9_method_7_code
def yX7_reachFrom : MethodName := ⟨RX7, "reachFrom", "(I)V"⟩
abbrev cX7_changeOfBest : ByteArray := prog_9_method_8_code
def yX7_changeOfBest : MethodName := ⟨RX7, "changeOfBest", "(III)I"⟩
abbrev cX7_afterChange : ByteArray := prog_9_method_9_code
def yX7_afterChange : MethodName := ⟨RX7, "afterChange", "(II)I"⟩
abbrev cX7_bestChange : ByteArray := prog_9_method_10_code
def yX7_bestChange : MethodName := ⟨RX7, "bestChange", "(I)I"⟩
def RX8 : String := "DesiredStateKeeper"
def TX8 : u_T := fun k => match k with
  | 0 => ("DesiredStateKeeper", "text", "[C", true)
  | 1 => ("DesiredStateKeeper", "textLength", "I", false)
  | 2 => ("DesiredStateKeeper", "reader", "LDesiredStateKeeper$TextReader;", true)
  | 3 => ("DesiredStateKeeper", "plan", "LDesiredStateKeeper$Plan;", true)
  | 4 => ("DesiredStateKeeper", "ways", "LDesiredStateKeeper$Ways;", true)
  | 5 => ("DesiredStateKeeper", "current", "LDesiredStateKeeper$State;", true)
  | 6 => ("DesiredStateKeeper", "trial", "LDesiredStateKeeper$State;", true)
  | 7 => ("DesiredStateKeeper", "memory", "LDesiredStateKeeper$Memory;", true)
  | 8 => ("DesiredStateKeeper", "slots", "[LDesiredStateKeeper$State;", true)
  | _ => ("DesiredStateKeeper", "slotFilled", "[Z", true)
def tyX8 : Nat → FieldType := fun k => match k with
  | 0 => .array .char
  | 1 => .int
  | 2 => .object "DesiredStateKeeper$TextReader"
  | 3 => .object "DesiredStateKeeper$Plan"
  | 4 => .object "DesiredStateKeeper$Ways"
  | 5 => .object "DesiredStateKeeper$State"
  | 6 => .object "DesiredStateKeeper$State"
  | 7 => .object "DesiredStateKeeper$Memory"
  | 8 => .array (.object "DesiredStateKeeper$State")
  | _ => .array .boolean
abbrev wsX80 : List Cond := u_ws RX8 TX8 10
theorem nmX8 : ∀ a, a < 10 → ∀ b, b < 10 → a ≠ b → (TX8 a).2.1 ≠ (TX8 b).2.1 := by decide +kernel
theorem tyX8_ok : ∀ k, k < 10 → parseFieldDescriptor (TX8 k).2.2.1 = some (tyX8 k) := by decide +kernel
abbrev cX8_init : ByteArray := prog_1_method_1_code
def yX8_init : MethodName := ⟨RX8, "<init>", "()V"⟩
abbrev cX8_append : ByteArray := prog_1_method_2_code
def yX8_append : MethodName := ⟨RX8, "append", "(I)I"⟩
abbrev cX8_clearText : ByteArray := prog_1_method_3_code
def yX8_clearText : MethodName := ⟨RX8, "clearText", "()I"⟩
abbrev cX8_errorPosition : ByteArray := prog_1_method_4_code
def yX8_errorPosition : MethodName := ⟨RX8, "errorPosition", "()I"⟩
abbrev cX8_load : ByteArray := prog_1_method_5_code
def yX8_load : MethodName := ⟨RX8, "load", "()I"⟩
abbrev cX8_about : ByteArray := prog_1_method_6_code
def yX8_about : MethodName := ⟨RX8, "about", "(I)I"⟩
abbrev cX8_node : ByteArray := prog_1_method_7_code
def yX8_node : MethodName := ⟨RX8, "node", "(II)I"⟩
abbrev cX8_version : ByteArray := prog_1_method_8_code
def yX8_version : MethodName := ⟨RX8, "version", "(IIZ)I"⟩
abbrev cX8_rule : ByteArray := prog_1_method_9_code
def yX8_rule : MethodName := ⟨RX8, "rule", "(II)I"⟩
abbrev cX8_approvals : ByteArray := prog_1_method_10_code
def yX8_approvals : MethodName := ⟨RX8, "approvals", "(II)I"⟩
abbrev cX8_quorum : ByteArray := prog_1_method_11_code
def yX8_quorum : MethodName := ⟨RX8, "quorum", "(I)I"⟩
abbrev cX8_wish : ByteArray := prog_1_method_12_code
def yX8_wish : MethodName := ⟨RX8, "wish", "(III)I"⟩
abbrev cX8_wishRing : ByteArray := prog_1_method_13_code
def yX8_wishRing : MethodName := ⟨RX8, "wishRing", "(III)I"⟩
abbrev cX8_drift : ByteArray := prog_1_method_14_code
def yX8_drift : MethodName := ⟨RX8, "drift", "(III)I"⟩
abbrev cX8_approve : ByteArray := prog_1_method_15_code
def yX8_approve : MethodName := ⟨RX8, "approve", "(III)I"⟩
abbrev cX8_dismiss : ByteArray := prog_1_method_16_code
def yX8_dismiss : MethodName := ⟨RX8, "dismiss", "(I)I"⟩
abbrev cX8_setQuorum : ByteArray := prog_1_method_17_code
def yX8_setQuorum : MethodName := ⟨RX8, "setQuorum", "(II)I"⟩
abbrev cX8_setFaults : ByteArray := prog_1_method_18_code
def yX8_setFaults : MethodName := ⟨RX8, "setFaults", "(II)I"⟩
abbrev cX8_pardon : ByteArray := prog_1_method_19_code
def yX8_pardon : MethodName := ⟨RX8, "pardon", "(I)I"⟩
abbrev cX8_tick : ByteArray := prog_1_method_20_code
def yX8_tick : MethodName := ⟨RX8, "tick", "(I)I"⟩
abbrev cX8_undo : ByteArray := prog_1_method_21_code
def yX8_undo : MethodName := ⟨RX8, "undo", "()I"⟩
abbrev cX8_state : ByteArray := prog_1_method_22_code
def yX8_state : MethodName := ⟨RX8, "state", "(II)I"⟩
abbrev cX8_next : ByteArray := prog_1_method_23_code
def yX8_next : MethodName := ⟨RX8, "next", "(I)I"⟩
abbrev cX8_breaks : ByteArray := prog_1_method_24_code
def yX8_breaks : MethodName := ⟨RX8, "breaks", "(III)I"⟩
abbrev cX8_holdsUp : ByteArray := prog_1_method_25_code
def yX8_holdsUp : MethodName := ⟨RX8, "holdsUp", "(I)I"⟩
abbrev cX8_missing : ByteArray := prog_1_method_26_code
def yX8_missing : MethodName := ⟨RX8, "missing", "(I)I"⟩
abbrev cX8_ahead : ByteArray := prog_1_method_27_code
def yX8_ahead : MethodName := ⟨RX8, "ahead", "(III)I"⟩
abbrev cX8_calmAfter : ByteArray := prog_1_method_28_code
def yX8_calmAfter : MethodName := ⟨RX8, "calmAfter", "()I"⟩
abbrev cX8_fewest : ByteArray := prog_1_method_29_code
def yX8_fewest : MethodName := ⟨RX8, "fewest", "(I)I"⟩
abbrev cX8_step : ByteArray := prog_1_method_30_code
def yX8_step : MethodName := ⟨RX8, "step", "(II)I"⟩
abbrev cX8_needed : ByteArray := prog_1_method_31_code
def yX8_needed : MethodName := ⟨RX8, "needed", "(III)I"⟩
abbrev cX8_isPossible : ByteArray := prog_1_method_32_code
def yX8_isPossible : MethodName := ⟨RX8, "isPossible", "(II)Z"⟩
abbrev cX8_explains : ByteArray := prog_1_method_33_code
def yX8_explains : MethodName := ⟨RX8, "explains", "(II)I"⟩
abbrev cX8_ranked : ByteArray := prog_1_method_34_code
def yX8_ranked : MethodName := ⟨RX8, "ranked", "(I)I"⟩
abbrev cX8_runScript : ByteArray := prog_1_method_35_code
def yX8_runScript : MethodName := ⟨RX8, "runScript", "(IJ)I"⟩
abbrev cX8_simulate : ByteArray := prog_1_method_36_code
def yX8_simulate : MethodName := ⟨RX8, "simulate", "(JI)I"⟩
abbrev cX8_save : ByteArray := prog_1_method_37_code
def yX8_save : MethodName := ⟨RX8, "save", "(I)I"⟩
abbrev cX8_restore : ByteArray := prog_1_method_38_code
def yX8_restore : MethodName := ⟨RX8, "restore", "(I)I"⟩
abbrev cX8_requireNode : ByteArray := prog_1_method_39_code
def yX8_requireNode : MethodName := ⟨RX8, "requireNode", "(I)V"⟩
abbrev cX8_requireComponent : ByteArray := prog_1_method_40_code
def yX8_requireComponent : MethodName := ⟨RX8, "requireComponent", "(I)V"⟩
abbrev cX8_requireRule : ByteArray := prog_1_method_41_code
def yX8_requireRule : MethodName := ⟨RX8, "requireRule", "(I)V"⟩
abbrev cX8_requireApprover : ByteArray := prog_1_method_42_code
def yX8_requireApprover : MethodName := ⟨RX8, "requireApprover", "(I)V"⟩
abbrev cX8_requireSlot : ByteArray := prog_1_method_43_code
def yX8_requireSlot : MethodName := ⟨RX8, "requireSlot", "(I)V"⟩
abbrev cX8_requireRange : ByteArray := prog_1_method_44_code
def yX8_requireRange : MethodName := ⟨RX8, "requireRange", "(III)V"⟩
def RX9 : String := "DesiredStateKeeperModel"
def TX9 : u_T := fun k => match k with
  | 0 => ("DesiredStateKeeperModel", "refusal", "I", false)
  | 1 => ("DesiredStateKeeperModel", "script", "[I", true)
  | 2 => ("DesiredStateKeeperModel", "scriptSize", "I", false)
  | 3 => ("DesiredStateKeeperModel", "spot", "I", false)
  | 4 => ("DesiredStateKeeperModel", "nodes", "I", false)
  | 5 => ("DesiredStateKeeperModel", "parts", "I", false)
  | 6 => ("DesiredStateKeeperModel", "rules", "I", false)
  | 7 => ("DesiredStateKeeperModel", "limit", "I", false)
  | 8 => ("DesiredStateKeeperModel", "length", "I", false)
  | 9 => ("DesiredStateKeeperModel", "rings", "[I", true)
  | 10 => ("DesiredStateKeeperModel", "law", "[I", true)
  | 11 => ("DesiredStateKeeperModel", "readNodes", "I", false)
  | 12 => ("DesiredStateKeeperModel", "readParts", "I", false)
  | 13 => ("DesiredStateKeeperModel", "readRules", "I", false)
  | 14 => ("DesiredStateKeeperModel", "readLimit", "I", false)
  | 15 => ("DesiredStateKeeperModel", "readLength", "I", false)
  | 16 => ("DesiredStateKeeperModel", "readRings", "[I", true)
  | 17 => ("DesiredStateKeeperModel", "readLaw", "[I", true)
  | 18 => ("DesiredStateKeeperModel", "readRow", "[I", true)
  | 19 => ("DesiredStateKeeperModel", "now", "[I", true)
  | 20 => ("DesiredStateKeeperModel", "trial", "[I", true)
  | 21 => ("DesiredStateKeeperModel", "diary", "[I", true)
  | 22 => ("DesiredStateKeeperModel", "acts", "I", false)
  | 23 => ("DesiredStateKeeperModel", "kept", "[I", true)
  | 24 => ("DesiredStateKeeperModel", "isKept", "[Z", true)
  | 25 => ("DesiredStateKeeperModel", "bad", "[I", true)
  | 26 => ("DesiredStateKeeperModel", "far", "[I", true)
  | 27 => ("DesiredStateKeeperModel", "queue", "[I", true)
  | _ => ("DesiredStateKeeperModel", "needs", "[I", true)
def tyX9 : Nat → FieldType := fun k => match k with
  | 0 => .int
  | 1 => .array .int
  | 2 => .int
  | 3 => .int
  | 4 => .int
  | 5 => .int
  | 6 => .int
  | 7 => .int
  | 8 => .int
  | 9 => .array .int
  | 10 => .array .int
  | 11 => .int
  | 12 => .int
  | 13 => .int
  | 14 => .int
  | 15 => .int
  | 16 => .array .int
  | 17 => .array .int
  | 18 => .array .int
  | 19 => .array .int
  | 20 => .array .int
  | 21 => .array .int
  | 22 => .int
  | 23 => .array .int
  | 24 => .array .boolean
  | 25 => .array .int
  | 26 => .array .int
  | 27 => .array .int
  | _ => .array .int
abbrev wsX90 : List Cond := u_ws RX9 TX9 29
theorem nmX9 : ∀ a, a < 29 → ∀ b, b < 29 → a ≠ b → (TX9 a).2.1 ≠ (TX9 b).2.1 := by decide +kernel
theorem tyX9_ok : ∀ k, k < 29 → parseFieldDescriptor (TX9 k).2.2.1 = some (tyX9 k) := by decide +kernel
abbrev cX9_init : ByteArray := prog_11_method_1_code
def yX9_init : MethodName := ⟨RX9, "<init>", "()V"⟩
abbrev cX9_thrown : ByteArray := prog_11_method_2_code
def yX9_thrown : MethodName := ⟨RX9, "thrown", "()I"⟩
abbrev cX9_refused : ByteArray := prog_11_method_3_code
def yX9_refused : MethodName := ⟨RX9, "refused", "(I)Z"⟩
abbrev cX9_in : ByteArray := prog_11_method_4_code
def yX9_in : MethodName := ⟨RX9, "in", "(JJJ)Z"⟩
abbrev cX9_copy : ByteArray := prog_11_method_5_code
def yX9_copy : MethodName := ⟨RX9, "copy", "([II[III)V"⟩
abbrev cX9_note : ByteArray := prog_11_method_6_code
def yX9_note : MethodName := ⟨RX9, "note", "()V"⟩
abbrev cX9_change : ByteArray := prog_11_method_7_code
def yX9_change : MethodName := ⟨RX9, "change", "(II)I"⟩
abbrev cX9_at : ByteArray := prog_11_method_8_code
def yX9_at : MethodName := ⟨RX9, "at", "(I)I"⟩
abbrev cX9_partAt : ByteArray := prog_11_method_9_code
def yX9_partAt : MethodName := ⟨RX9, "partAt", "(I)I"⟩
abbrev cX9_isNode : ByteArray := prog_11_method_10_code
def yX9_isNode : MethodName := ⟨RX9, "isNode", "(I)Z"⟩
abbrev cX9_isPart : ByteArray := prog_11_method_11_code
def yX9_isPart : MethodName := ⟨RX9, "isPart", "(I)Z"⟩
abbrev cX9_isVersion : ByteArray := prog_11_method_12_code
def yX9_isVersion : MethodName := ⟨RX9, "isVersion", "(I)Z"⟩
abbrev cX9_append : ByteArray := prog_11_method_13_code
def yX9_append : MethodName := ⟨RX9, "append", "(I)I"⟩
abbrev cX9_clearText : ByteArray := prog_11_method_14_code
def yX9_clearText : MethodName := ⟨RX9, "clearText", "()I"⟩
abbrev cX9_passes : ByteArray := prog_11_method_15_code
def yX9_passes : MethodName := ⟨RX9, "passes", "(I)Z"⟩
abbrev cX9_digit : ByteArray := prog_11_method_16_code
def yX9_digit : MethodName := ⟨RX9, "digit", "(III)I"⟩
abbrev cX9_readHead : ByteArray := prog_11_method_17_code
def yX9_readHead : MethodName := ⟨RX9, "readHead", "()Z"⟩
abbrev cX9_readRule : ByteArray := prog_11_method_18_code
def yX9_readRule : MethodName := ⟨RX9, "readRule", "(I)Z"⟩
abbrev cX9_readVersion : ByteArray := prog_11_method_19_code
def yX9_readVersion : MethodName := ⟨RX9, "readVersion", "(I)Z"⟩
abbrev cX9_readItem : ByteArray := prog_11_method_20_code
def yX9_readItem : MethodName := ⟨RX9, "readItem", "()Z"⟩
abbrev cX9_readText : ByteArray := prog_11_method_21_code
def yX9_readText : MethodName := ⟨RX9, "readText", "()I"⟩
abbrev cX9_errorPosition : ByteArray := prog_11_method_22_code
def yX9_errorPosition : MethodName := ⟨RX9, "errorPosition", "()I"⟩
abbrev cX9_load : ByteArray := prog_11_method_23_code
def yX9_load : MethodName := ⟨RX9, "load", "()I"⟩
abbrev cX9_versionOf : ByteArray := prog_11_method_24_code
def yX9_versionOf : MethodName := ⟨RX9, "versionOf", "(II)I"⟩
abbrev cX9_with : ByteArray := prog_11_method_25_code
def yX9_with : MethodName := ⟨RX9, "with", "(III)I"⟩
abbrev cX9_codeOf : ByteArray := prog_11_method_26_code
def yX9_codeOf : MethodName := ⟨RX9, "codeOf", "([III)I"⟩
abbrev cX9_broken : ByteArray := prog_11_method_27_code
def yX9_broken : MethodName := ⟨RX9, "broken", "(I)I"⟩
abbrev cX9_newlyBroken : ByteArray := prog_11_method_28_code
def yX9_newlyBroken : MethodName := ⟨RX9, "newlyBroken", "([IIII)I"⟩
abbrev cX9_isDrifted : ByteArray := prog_11_method_29_code
def yX9_isDrifted : MethodName := ⟨RX9, "isDrifted", "([III)Z"⟩
abbrev cX9_drifted : ByteArray := prog_11_method_30_code
def yX9_drifted : MethodName := ⟨RX9, "drifted", "([II)I"⟩
abbrev cX9_ones : ByteArray := prog_11_method_31_code
def yX9_ones : MethodName := ⟨RX9, "ones", "(I)I"⟩
abbrev cX9_isQuarantined : ByteArray := prog_11_method_32_code
def yX9_isQuarantined : MethodName := ⟨RX9, "isQuarantined", "([II)Z"⟩
abbrev cX9_lacking : ByteArray := prog_11_method_33_code
def yX9_lacking : MethodName := ⟨RX9, "lacking", "([III)I"⟩
abbrev cX9_waitsForRings : ByteArray := prog_11_method_34_code
def yX9_waitsForRings : MethodName := ⟨RX9, "waitsForRings", "([III)Z"⟩
abbrev cX9_stateOf : ByteArray := prog_11_method_35_code
def yX9_stateOf : MethodName := ⟨RX9, "stateOf", "([III)I"⟩
abbrev cX9_nextOf : ByteArray := prog_11_method_36_code
def yX9_nextOf : MethodName := ⟨RX9, "nextOf", "([II)I"⟩
abbrev cX9_tickOn : ByteArray := prog_11_method_37_code
def yX9_tickOn : MethodName := ⟨RX9, "tickOn", "([I)V"⟩
abbrev cX9_calmNodes : ByteArray := prog_11_method_38_code
def yX9_calmNodes : MethodName := ⟨RX9, "calmNodes", "([I)I"⟩
abbrev cX9_about : ByteArray := prog_11_method_39_code
def yX9_about : MethodName := ⟨RX9, "about", "(I)I"⟩
abbrev cX9_digestOf : ByteArray := prog_11_method_40_code
def yX9_digestOf : MethodName := ⟨RX9, "digestOf", "([II)I"⟩
abbrev cX9_tell : ByteArray := prog_11_method_41_code
def yX9_tell : MethodName := ⟨RX9, "tell", "([III)I"⟩
abbrev cX9_node : ByteArray := prog_11_method_42_code
def yX9_node : MethodName := ⟨RX9, "node", "(II)I"⟩
abbrev cX9_version : ByteArray := prog_11_method_43_code
def yX9_version : MethodName := ⟨RX9, "version", "(IIZ)I"⟩
abbrev cX9_rule : ByteArray := prog_11_method_44_code
def yX9_rule : MethodName := ⟨RX9, "rule", "(II)I"⟩
abbrev cX9_approvals : ByteArray := prog_11_method_45_code
def yX9_approvals : MethodName := ⟨RX9, "approvals", "(II)I"⟩
abbrev cX9_quorum : ByteArray := prog_11_method_46_code
def yX9_quorum : MethodName := ⟨RX9, "quorum", "(I)I"⟩
abbrev cX9_wish : ByteArray := prog_11_method_47_code
def yX9_wish : MethodName := ⟨RX9, "wish", "(III)I"⟩
abbrev cX9_wishRing : ByteArray := prog_11_method_48_code
def yX9_wishRing : MethodName := ⟨RX9, "wishRing", "(III)I"⟩
abbrev cX9_drift : ByteArray := prog_11_method_49_code
def yX9_drift : MethodName := ⟨RX9, "drift", "(III)I"⟩
abbrev cX9_approve : ByteArray := prog_11_method_50_code
def yX9_approve : MethodName := ⟨RX9, "approve", "(III)I"⟩
abbrev cX9_dismiss : ByteArray := prog_11_method_51_code
def yX9_dismiss : MethodName := ⟨RX9, "dismiss", "(I)I"⟩
abbrev cX9_setQuorum : ByteArray := prog_11_method_52_code
def yX9_setQuorum : MethodName := ⟨RX9, "setQuorum", "(II)I"⟩
abbrev cX9_setFaults : ByteArray := prog_11_method_53_code
def yX9_setFaults : MethodName := ⟨RX9, "setFaults", "(II)I"⟩
abbrev cX9_pardon : ByteArray := prog_11_method_54_code
def yX9_pardon : MethodName := ⟨RX9, "pardon", "(I)I"⟩
abbrev cX9_tick : ByteArray := prog_11_method_55_code
def yX9_tick : MethodName := ⟨RX9, "tick", "(I)I"⟩
abbrev cX9_undo : ByteArray := prog_11_method_56_code
def yX9_undo : MethodName := ⟨RX9, "undo", "()I"⟩
abbrev cX9_state : ByteArray := prog_11_method_57_code
def yX9_state : MethodName := ⟨RX9, "state", "(II)I"⟩
abbrev cX9_next : ByteArray := prog_11_method_58_code
def yX9_next : MethodName := ⟨RX9, "next", "(I)I"⟩
abbrev cX9_breaks : ByteArray := prog_11_method_59_code
def yX9_breaks : MethodName := ⟨RX9, "breaks", "(III)I"⟩
abbrev cX9_holdsUp : ByteArray := prog_11_method_60_code
def yX9_holdsUp : MethodName := ⟨RX9, "holdsUp", "(I)I"⟩
abbrev cX9_missing : ByteArray := prog_11_method_61_code
def yX9_missing : MethodName := ⟨RX9, "missing", "(I)I"⟩
abbrev cX9_ahead : ByteArray := prog_11_method_62_code
def yX9_ahead : MethodName := ⟨RX9, "ahead", "(III)I"⟩
abbrev cX9_calmAfter : ByteArray := prog_11_method_63_code
def yX9_calmAfter : MethodName := ⟨RX9, "calmAfter", "()I"⟩
abbrev cX9_layWays : ByteArray := prog_11_method_64_code
def yX9_layWays : MethodName := ⟨RX9, "layWays", "(I)V"⟩
abbrev cX9_fewest : ByteArray := prog_11_method_65_code
def yX9_fewest : MethodName := ⟨RX9, "fewest", "(I)I"⟩
abbrev cX9_firstStep : ByteArray := prog_11_method_66_code
def yX9_firstStep : MethodName := ⟨RX9, "firstStep", "(I)I"⟩
abbrev cX9_step : ByteArray := prog_11_method_67_code
def yX9_step : MethodName := ⟨RX9, "step", "(II)I"⟩
abbrev cX9_layNeeds : ByteArray := prog_11_method_68_code
def yX9_layNeeds : MethodName := ⟨RX9, "layNeeds", "(II)V"⟩
abbrev cX9_needed : ByteArray := prog_11_method_69_code
def yX9_needed : MethodName := ⟨RX9, "needed", "(III)I"⟩
abbrev cX9_isPossible : ByteArray := prog_11_method_70_code
def yX9_isPossible : MethodName := ⟨RX9, "isPossible", "(II)Z"⟩
abbrev cX9_explains : ByteArray := prog_11_method_71_code
def yX9_explains : MethodName := ⟨RX9, "explains", "(II)I"⟩
abbrev cX9_distance : ByteArray := prog_11_method_72_code
def yX9_distance : MethodName := ⟨RX9, "distance", "(I)I"⟩
abbrev cX9_ranked : ByteArray := prog_11_method_73_code
def yX9_ranked : MethodName := ⟨RX9, "ranked", "(I)I"⟩
abbrev cX9_command : ByteArray := prog_11_method_74_code
def yX9_command : MethodName := ⟨RX9, "command", "(I)Z"⟩
abbrev cX9_groups : ByteArray := prog_11_method_75_code
def yX9_groups : MethodName := ⟨RX9, "groups", "(I)J"⟩
abbrev cX9_runScript : ByteArray := prog_11_method_76_code
def yX9_runScript : MethodName := ⟨RX9, "runScript", "(IJ)I"⟩
abbrev cX9_simulate : ByteArray := prog_11_method_77_code
def yX9_simulate : MethodName := ⟨RX9, "simulate", "(JI)I"⟩
abbrev cX9_save : ByteArray := prog_11_method_78_code
def yX9_save : MethodName := ⟨RX9, "save", "(I)I"⟩
abbrev cX9_restore : ByteArray := prog_11_method_79_code
def yX9_restore : MethodName := ⟨RX9, "restore", "(I)I"⟩
def RJx145de : String := "java/io/Serializable"
def TJx145de : u_T := fun k => match k with
  | _ => ("", "", "", false)
def tyJx145de : Nat → FieldType := fun k => match k with
  | _ => .int
abbrev wsJx145de0 : List Cond := u_ws RJx145de TJx145de 0
theorem nmJx145de : ∀ a, a < 0 → ∀ b, b < 0 → a ≠ b → (TJx145de a).2.1 ≠ (TJx145de b).2.1 := by decide +kernel
theorem tyJx145de_ok : ∀ k, k < 0 → parseFieldDescriptor (TJx145de k).2.2.1 = some (tyJx145de k) := by decide +kernel
def RJ6 : String := "java/lang/Integer"
def TJ6 : u_T := fun k => match k with
  | _ => ("", "", "", false)
def tyJ6 : Nat → FieldType := fun k => match k with
  | _ => .int
abbrev wsJ60 : List Cond := u_ws RJ6 TJ6 0
theorem nmJ6 : ∀ a, a < 0 → ∀ b, b < 0 → a ≠ b → (TJ6 a).2.1 ≠ (TJ6 b).2.1 := by decide +kernel
theorem tyJ6_ok : ∀ k, k < 0 → parseFieldDescriptor (TJ6 k).2.2.1 = some (tyJ6 k) := by decide +kernel
abbrev cJ6_bitCount_0f7a4 : ByteArray := prog_16_method_49_code
def yJ6_bitCount_0f7a4 : MethodName := ⟨RJ6, "bitCount", "(I)I"⟩
def RJ9 : String := "java/lang/Math"
def TJ9 : u_T := fun k => match k with
  | _ => ("", "", "", false)
def tyJ9 : Nat → FieldType := fun k => match k with
  | _ => .int
abbrev wsJ90 : List Cond := u_ws RJ9 TJ9 0
theorem nmJ9 : ∀ a, a < 0 → ∀ b, b < 0 → a ≠ b → (TJ9 a).2.1 ≠ (TJ9 b).2.1 := by decide +kernel
theorem tyJ9_ok : ∀ k, k < 0 → parseFieldDescriptor (TJ9 k).2.2.1 = some (tyJ9 k) := by decide +kernel
abbrev cJ9_max_7cf53 : ByteArray := prog_17_method_65_code
def yJ9_max_7cf53 : MethodName := ⟨RJ9, "max", "(II)I"⟩
abbrev cJ9_min_7cf53 : ByteArray := prog_17_method_69_code
def yJ9_min_7cf53 : MethodName := ⟨RJ9, "min", "(II)I"⟩
def RJ0 : String := "java/lang/String"
def TJ0 : u_T := fun k => match k with
  | _ => ("", "", "", false)
def tyJ0 : Nat → FieldType := fun k => match k with
  | _ => .int
abbrev wsJ00 : List Cond := u_ws RJ0 TJ0 0
theorem nmJ0 : ∀ a, a < 0 → ∀ b, b < 0 → a ≠ b → (TJ0 a).2.1 ≠ (TJ0 b).2.1 := by decide +kernel
theorem tyJ0_ok : ∀ k, k < 0 → parseFieldDescriptor (TJ0 k).2.2.1 = some (tyJ0 k) := by decide +kernel
def RJ10 : String := "java/lang/System"
def TJ10 : u_T := fun k => match k with
  | _ => ("", "", "", false)
def tyJ10 : Nat → FieldType := fun k => match k with
  | _ => .int
abbrev wsJ100 : List Cond := u_ws RJ10 TJ10 0
theorem nmJ10 : ∀ a, a < 0 → ∀ b, b < 0 → a ≠ b → (TJ10 a).2.1 ≠ (TJ10 b).2.1 := by decide +kernel
theorem tyJ10_ok : ∀ k, k < 0 → parseFieldDescriptor (TJ10 k).2.2.1 = some (tyJ10 k) := by decide +kernel
def RJ7 : String := "java/util/Arrays"
def TJ7 : u_T := fun k => match k with
  | _ => ("", "", "", false)
def tyJ7 : Nat → FieldType := fun k => match k with
  | _ => .int
abbrev wsJ70 : List Cond := u_ws RJ7 TJ7 0
theorem nmJ7 : ∀ a, a < 0 → ∀ b, b < 0 → a ≠ b → (TJ7 a).2.1 ≠ (TJ7 b).2.1 := by decide +kernel
theorem tyJ7_ok : ∀ k, k < 0 → parseFieldDescriptor (TJ7 k).2.2.1 = some (tyJ7 k) := by decide +kernel
abbrev cJ7_fill_53178 : ByteArray := prog_22_method_103_code
def yJ7_fill_53178 : MethodName := ⟨RJ7, "fill", "([II)V"⟩
def RL : String := "DesiredStateKeeperLaw"
abbrev cL_append : ByteArray := method_3_code
def yL_append : MethodName := ⟨RL, "append", "(LDesiredStateKeeper;I[J)I"⟩
abbrev cL_load : ByteArray := method_4_code
def yL_load : MethodName := ⟨RL, "load", "(LDesiredStateKeeper;[J)I"⟩
abbrev cL_about : ByteArray := method_5_code
def yL_about : MethodName := ⟨RL, "about", "(LDesiredStateKeeper;I[J)I"⟩
abbrev cL_node : ByteArray := method_6_code
def yL_node : MethodName := ⟨RL, "node", "(LDesiredStateKeeper;II[J)I"⟩
abbrev cL_version : ByteArray := method_7_code
def yL_version : MethodName := ⟨RL, "version", "(LDesiredStateKeeper;IIZ[J)I"⟩
abbrev cL_rule : ByteArray := method_8_code
def yL_rule : MethodName := ⟨RL, "rule", "(LDesiredStateKeeper;II[J)I"⟩
abbrev cL_approvals : ByteArray := method_9_code
def yL_approvals : MethodName := ⟨RL, "approvals", "(LDesiredStateKeeper;II[J)I"⟩
abbrev cL_quorum : ByteArray := method_10_code
def yL_quorum : MethodName := ⟨RL, "quorum", "(LDesiredStateKeeper;I[J)I"⟩
abbrev cL_wish : ByteArray := method_11_code
def yL_wish : MethodName := ⟨RL, "wish", "(LDesiredStateKeeper;III[J)I"⟩
abbrev cL_wishRing : ByteArray := method_12_code
def yL_wishRing : MethodName := ⟨RL, "wishRing", "(LDesiredStateKeeper;III[J)I"⟩
abbrev cL_drift : ByteArray := method_13_code
def yL_drift : MethodName := ⟨RL, "drift", "(LDesiredStateKeeper;III[J)I"⟩
abbrev cL_approve : ByteArray := method_14_code
def yL_approve : MethodName := ⟨RL, "approve", "(LDesiredStateKeeper;III[J)I"⟩
abbrev cL_dismiss : ByteArray := method_15_code
def yL_dismiss : MethodName := ⟨RL, "dismiss", "(LDesiredStateKeeper;I[J)I"⟩
abbrev cL_setQuorum : ByteArray := method_16_code
def yL_setQuorum : MethodName := ⟨RL, "setQuorum", "(LDesiredStateKeeper;II[J)I"⟩
abbrev cL_setFaults : ByteArray := method_17_code
def yL_setFaults : MethodName := ⟨RL, "setFaults", "(LDesiredStateKeeper;II[J)I"⟩
abbrev cL_pardon : ByteArray := method_18_code
def yL_pardon : MethodName := ⟨RL, "pardon", "(LDesiredStateKeeper;I[J)I"⟩
abbrev cL_tick : ByteArray := method_19_code
def yL_tick : MethodName := ⟨RL, "tick", "(LDesiredStateKeeper;I[J)I"⟩
abbrev cL_undo : ByteArray := method_20_code
def yL_undo : MethodName := ⟨RL, "undo", "(LDesiredStateKeeper;[J)I"⟩
abbrev cL_state : ByteArray := method_21_code
def yL_state : MethodName := ⟨RL, "state", "(LDesiredStateKeeper;II[J)I"⟩
abbrev cL_next : ByteArray := method_22_code
def yL_next : MethodName := ⟨RL, "next", "(LDesiredStateKeeper;I[J)I"⟩
abbrev cL_breaks : ByteArray := method_23_code
def yL_breaks : MethodName := ⟨RL, "breaks", "(LDesiredStateKeeper;III[J)I"⟩
abbrev cL_holdsUp : ByteArray := method_24_code
def yL_holdsUp : MethodName := ⟨RL, "holdsUp", "(LDesiredStateKeeper;I[J)I"⟩
abbrev cL_missing : ByteArray := method_25_code
def yL_missing : MethodName := ⟨RL, "missing", "(LDesiredStateKeeper;I[J)I"⟩
abbrev cL_ahead : ByteArray := method_26_code
def yL_ahead : MethodName := ⟨RL, "ahead", "(LDesiredStateKeeper;III[J)I"⟩
abbrev cL_fewest : ByteArray := method_27_code
def yL_fewest : MethodName := ⟨RL, "fewest", "(LDesiredStateKeeper;I[J)I"⟩
abbrev cL_step : ByteArray := method_28_code
def yL_step : MethodName := ⟨RL, "step", "(LDesiredStateKeeper;II[J)I"⟩
abbrev cL_needed : ByteArray := method_29_code
def yL_needed : MethodName := ⟨RL, "needed", "(LDesiredStateKeeper;III[J)I"⟩
abbrev cL_isPossible : ByteArray := method_30_code
def yL_isPossible : MethodName := ⟨RL, "isPossible", "(LDesiredStateKeeper;II[J)I"⟩
abbrev cL_explains : ByteArray := method_31_code
def yL_explains : MethodName := ⟨RL, "explains", "(LDesiredStateKeeper;II[J)I"⟩
abbrev cL_ranked : ByteArray := method_32_code
def yL_ranked : MethodName := ⟨RL, "ranked", "(LDesiredStateKeeper;I[J)I"⟩
abbrev cL_runScript : ByteArray := method_33_code
def yL_runScript : MethodName := ⟨RL, "runScript", "(LDesiredStateKeeper;IJ[J)I"⟩
abbrev cL_simulate : ByteArray := method_34_code
def yL_simulate : MethodName := ⟨RL, "simulate", "(LDesiredStateKeeper;JI[J)I"⟩
abbrev cL_save : ByteArray := method_35_code
def yL_save : MethodName := ⟨RL, "save", "(LDesiredStateKeeper;I[J)I"⟩
abbrev cL_restore : ByteArray := method_36_code
def yL_restore : MethodName := ⟨RL, "restore", "(LDesiredStateKeeper;I[J)I"⟩
abbrev cL_law : ByteArray := code
def yL_law : MethodName := ⟨RL, "law", "([I)Z"⟩
end
section
theorem dX0_versionIn_0 : decode cX0_versionIn 0 = .ok (.iload_n 0, 1) := by decide +kernel
theorem dX0_versionIn_1 : decode cX0_versionIn 1 = .ok (.iconst 2, 1) := by decide +kernel
theorem dX0_versionIn_2 : decode cX0_versionIn 2 = .ok (.iload_n 1, 1) := by decide +kernel
theorem dX0_versionIn_3 : decode cX0_versionIn 3 = .ok (.imul, 1) := by decide +kernel
theorem dX0_versionIn_4 : decode cX0_versionIn 4 = .ok (.ishr, 1) := by decide +kernel
theorem dX0_versionIn_5 : decode cX0_versionIn 5 = .ok (.iconst 3, 1) := by decide +kernel
theorem dX0_versionIn_6 : decode cX0_versionIn 6 = .ok (.iand, 1) := by decide +kernel
theorem dX0_versionIn_7 : decode cX0_versionIn 7 = .ok (.ireturn, 1) := by decide +kernel
theorem dX0_with_0 : decode cX0_with 0 = .ok (.iload_n 0, 1) := by decide +kernel
theorem dX0_with_1 : decode cX0_with 1 = .ok (.iconst 3, 1) := by decide +kernel
theorem dX0_with_2 : decode cX0_with 2 = .ok (.iconst 2, 1) := by decide +kernel
theorem dX0_with_3 : decode cX0_with 3 = .ok (.iload_n 1, 1) := by decide +kernel
theorem dX0_with_4 : decode cX0_with 4 = .ok (.imul, 1) := by decide +kernel
theorem dX0_with_5 : decode cX0_with 5 = .ok (.ishl, 1) := by decide +kernel
theorem dX0_with_6 : decode cX0_with 6 = .ok (.iconst (-1), 1) := by decide +kernel
theorem dX0_with_7 : decode cX0_with 7 = .ok (.ixor, 1) := by decide +kernel
theorem dX0_with_8 : decode cX0_with 8 = .ok (.iand, 1) := by decide +kernel
theorem dX0_with_9 : decode cX0_with 9 = .ok (.iload_n 2, 1) := by decide +kernel
theorem dX0_with_10 : decode cX0_with 10 = .ok (.iconst 2, 1) := by decide +kernel
theorem dX0_with_11 : decode cX0_with 11 = .ok (.iload_n 1, 1) := by decide +kernel
theorem dX0_with_12 : decode cX0_with 12 = .ok (.imul, 1) := by decide +kernel
theorem dX0_with_13 : decode cX0_with 13 = .ok (.ishl, 1) := by decide +kernel
theorem dX0_with_14 : decode cX0_with 14 = .ok (.ior, 1) := by decide +kernel
theorem dX0_with_15 : decode cX0_with 15 = .ok (.ireturn, 1) := by decide +kernel
theorem dX0_change_0 : decode cX0_change 0 = .ok (.iconst 4, 1) := by decide +kernel
theorem dX0_change_1 : decode cX0_change 1 = .ok (.iload_n 0, 1) := by decide +kernel
theorem dX0_change_2 : decode cX0_change 2 = .ok (.imul, 1) := by decide +kernel
theorem dX0_change_3 : decode cX0_change 3 = .ok (.iload_n 1, 1) := by decide +kernel
theorem dX0_change_4 : decode cX0_change 4 = .ok (.iadd, 1) := by decide +kernel
theorem dX0_change_5 : decode cX0_change 5 = .ok (.ireturn, 1) := by decide +kernel
theorem dX1_succeeds_0 : decode cX1_succeeds 0 = .ok (.iload_n 1, 1) := by decide +kernel
theorem dX1_succeeds_1 : decode cX1_succeeds 1 = .ok (.bipush 100, 2) := by decide +kernel
theorem dX1_succeeds_3 : decode cX1_succeeds 3 = .ok (.idiv, 1) := by decide +kernel
theorem dX1_succeeds_4 : decode cX1_succeeds 4 = .ok (.bipush 10, 2) := by decide +kernel
theorem dX1_succeeds_6 : decode cX1_succeeds 6 = .ok (.irem, 1) := by decide +kernel
theorem dX1_succeeds_7 : decode cX1_succeeds 7 = .ok (.istore_n 2, 1) := by decide +kernel
theorem dX1_succeeds_8 : decode cX1_succeeds 8 = .ok (.iload_n 1, 1) := by decide +kernel
theorem dX1_succeeds_9 : decode cX1_succeeds 9 = .ok (.bipush 10, 2) := by decide +kernel
theorem dX1_succeeds_11 : decode cX1_succeeds 11 = .ok (.idiv, 1) := by decide +kernel
theorem dX1_succeeds_12 : decode cX1_succeeds 12 = .ok (.bipush 10, 2) := by decide +kernel
theorem dX1_succeeds_14 : decode cX1_succeeds 14 = .ok (.irem, 1) := by decide +kernel
theorem dX1_succeeds_15 : decode cX1_succeeds 15 = .ok (.istore_n 3, 1) := by decide +kernel
theorem dX1_succeeds_16 : decode cX1_succeeds 16 = .ok (.iload_n 1, 1) := by decide +kernel
theorem dX1_succeeds_17 : decode cX1_succeeds 17 = .ok (.bipush 10, 2) := by decide +kernel
theorem dX1_succeeds_19 : decode cX1_succeeds 19 = .ok (.irem, 1) := by decide +kernel
theorem dX1_succeeds_20 : decode cX1_succeeds 20 = .ok (.istore 4, 2) := by decide +kernel
theorem dX1_succeeds_22 : decode cX1_succeeds 22 = .ok (.iload_n 1, 1) := by decide +kernel
theorem dX1_succeeds_23 : decode cX1_succeeds 23 = .ok (.sipush 1000, 3) := by decide +kernel
theorem dX1_succeeds_26 : decode cX1_succeeds 26 = .ok (.idiv, 1) := by decide +kernel
theorem dX1_succeeds_27 : decode cX1_succeeds 27 = .ok (.tableswitch 234 1 8 #[45, 61, 77, 86, 128, 148, 181, 210], 45) := by decide +kernel
theorem dX1_succeeds_72 : decode cX1_succeeds 72 = .ok (.aload_n 0, 1) := by decide +kernel
theorem dX1_succeeds_73 : decode cX1_succeeds 73 = .ok (.getfield 9, 3) := by decide +kernel
theorem dX1_succeeds_76 : decode cX1_succeeds 76 = .ok (.aload_n 0, 1) := by decide +kernel
theorem dX1_succeeds_77 : decode cX1_succeeds 77 = .ok (.getfield 15, 3) := by decide +kernel
theorem dX1_succeeds_80 : decode cX1_succeeds 80 = .ok (.iload_n 2, 1) := by decide +kernel
theorem dX1_succeeds_81 : decode cX1_succeeds 81 = .ok (.iload_n 3, 1) := by decide +kernel
theorem dX1_succeeds_82 : decode cX1_succeeds 82 = .ok (.iload 4, 2) := by decide +kernel
theorem dX1_succeeds_84 : decode cX1_succeeds 84 = .ok (.invokestatic 19, 3) := by decide +kernel
theorem dX1_succeeds_87 : decode cX1_succeeds 87 = .ok (.ireturn, 1) := by decide +kernel
theorem dX1_succeeds_88 : decode cX1_succeeds 88 = .ok (.aload_n 0, 1) := by decide +kernel
theorem dX1_succeeds_89 : decode cX1_succeeds 89 = .ok (.getfield 9, 3) := by decide +kernel
theorem dX1_succeeds_92 : decode cX1_succeeds 92 = .ok (.aload_n 0, 1) := by decide +kernel
theorem dX1_succeeds_93 : decode cX1_succeeds 93 = .ok (.getfield 25, 3) := by decide +kernel
theorem dX1_succeeds_96 : decode cX1_succeeds 96 = .ok (.iload_n 2, 1) := by decide +kernel
theorem dX1_succeeds_97 : decode cX1_succeeds 97 = .ok (.iload_n 3, 1) := by decide +kernel
theorem dX1_succeeds_98 : decode cX1_succeeds 98 = .ok (.iload 4, 2) := by decide +kernel
theorem dX1_succeeds_100 : decode cX1_succeeds 100 = .ok (.invokestatic 19, 3) := by decide +kernel
theorem dX1_succeeds_103 : decode cX1_succeeds 103 = .ok (.ireturn, 1) := by decide +kernel
theorem dX1_succeeds_104 : decode cX1_succeeds 104 = .ok (.aload_n 0, 1) := by decide +kernel
theorem dX1_succeeds_105 : decode cX1_succeeds 105 = .ok (.iload_n 2, 1) := by decide +kernel
theorem dX1_succeeds_106 : decode cX1_succeeds 106 = .ok (.iload_n 3, 1) := by decide +kernel
theorem dX1_succeeds_107 : decode cX1_succeeds 107 = .ok (.iload 4, 2) := by decide +kernel
theorem dX1_succeeds_109 : decode cX1_succeeds 109 = .ok (.invokestatic 28, 3) := by decide +kernel
theorem dX1_succeeds_112 : decode cX1_succeeds 112 = .ok (.ireturn, 1) := by decide +kernel
theorem dX1_succeeds_113 : decode cX1_succeeds 113 = .ok (.iload_n 2, 1) := by decide +kernel
theorem dX1_succeeds_114 : decode cX1_succeeds 114 = .ok (.ifCond .ne 26, 3) := by decide +kernel
theorem dX1_succeeds_117 : decode cX1_succeeds 117 = .ok (.bipush 10, 2) := by decide +kernel
theorem dX1_succeeds_119 : decode cX1_succeeds 119 = .ok (.iload_n 3, 1) := by decide +kernel
theorem dX1_succeeds_120 : decode cX1_succeeds 120 = .ok (.imul, 1) := by decide +kernel
theorem dX1_succeeds_121 : decode cX1_succeeds 121 = .ok (.iload 4, 2) := by decide +kernel
theorem dX1_succeeds_123 : decode cX1_succeeds 123 = .ok (.iadd, 1) := by decide +kernel
theorem dX1_succeeds_124 : decode cX1_succeeds 124 = .ok (.iconst 1, 1) := by decide +kernel
theorem dX1_succeeds_125 : decode cX1_succeeds 125 = .ok (.if_icmp .lt 15, 3) := by decide +kernel
theorem dX1_succeeds_128 : decode cX1_succeeds 128 = .ok (.bipush 10, 2) := by decide +kernel
theorem dX1_succeeds_130 : decode cX1_succeeds 130 = .ok (.iload_n 3, 1) := by decide +kernel
theorem dX1_succeeds_131 : decode cX1_succeeds 131 = .ok (.imul, 1) := by decide +kernel
theorem dX1_succeeds_132 : decode cX1_succeeds 132 = .ok (.iload 4, 2) := by decide +kernel
theorem dX1_succeeds_134 : decode cX1_succeeds 134 = .ok (.iadd, 1) := by decide +kernel
theorem dX1_succeeds_135 : decode cX1_succeeds 135 = .ok (.bipush 50, 2) := by decide +kernel
theorem dX1_succeeds_137 : decode cX1_succeeds 137 = .ok (.if_icmp .le 5, 3) := by decide +kernel
theorem dX1_succeeds_140 : decode cX1_succeeds 140 = .ok (.iconst 0, 1) := by decide +kernel
theorem dX1_succeeds_141 : decode cX1_succeeds 141 = .ok (.ireturn, 1) := by decide +kernel
theorem dX1_succeeds_142 : decode cX1_succeeds 142 = .ok (.aload_n 0, 1) := by decide +kernel
theorem dX1_succeeds_143 : decode cX1_succeeds 143 = .ok (.bipush 10, 2) := by decide +kernel
theorem dX1_succeeds_145 : decode cX1_succeeds 145 = .ok (.iload_n 3, 1) := by decide +kernel
theorem dX1_succeeds_146 : decode cX1_succeeds 146 = .ok (.imul, 1) := by decide +kernel
theorem dX1_succeeds_147 : decode cX1_succeeds 147 = .ok (.iload 4, 2) := by decide +kernel
theorem dX1_succeeds_149 : decode cX1_succeeds 149 = .ok (.iadd, 1) := by decide +kernel
theorem dX1_succeeds_150 : decode cX1_succeeds 150 = .ok (.invokevirtual 32, 3) := by decide +kernel
theorem dX1_succeeds_153 : decode cX1_succeeds 153 = .ok (.iconst 1, 1) := by decide +kernel
theorem dX1_succeeds_154 : decode cX1_succeeds 154 = .ok (.ireturn, 1) := by decide +kernel
theorem dX1_succeeds_155 : decode cX1_succeeds 155 = .ok (.iload_n 3, 1) := by decide +kernel
theorem dX1_succeeds_156 : decode cX1_succeeds 156 = .ok (.ifCond .ne 17, 3) := by decide +kernel
theorem dX1_succeeds_159 : decode cX1_succeeds 159 = .ok (.aload_n 0, 1) := by decide +kernel
theorem dX1_succeeds_160 : decode cX1_succeeds 160 = .ok (.iload_n 2, 1) := by decide +kernel
theorem dX1_succeeds_161 : decode cX1_succeeds 161 = .ok (.iload 4, 2) := by decide +kernel
theorem dX1_succeeds_163 : decode cX1_succeeds 163 = .ok (.invokestatic 36, 3) := by decide +kernel
theorem dX1_succeeds_166 : decode cX1_succeeds 166 = .ok (.ifCond .eq 7, 3) := by decide +kernel
theorem dX1_succeeds_169 : decode cX1_succeeds 169 = .ok (.iconst 1, 1) := by decide +kernel
theorem dX1_succeeds_170 : decode cX1_succeeds 170 = .ok (.goto 4, 3) := by decide +kernel
theorem dX1_succeeds_173 : decode cX1_succeeds 173 = .ok (.iconst 0, 1) := by decide +kernel
theorem dX1_succeeds_174 : decode cX1_succeeds 174 = .ok (.ireturn, 1) := by decide +kernel
theorem dX1_succeeds_175 : decode cX1_succeeds 175 = .ok (.aload_n 0, 1) := by decide +kernel
theorem dX1_succeeds_176 : decode cX1_succeeds 176 = .ok (.getfield 9, 3) := by decide +kernel
theorem dX1_succeeds_179 : decode cX1_succeeds 179 = .ok (.iload_n 2, 1) := by decide +kernel
theorem dX1_succeeds_180 : decode cX1_succeeds 180 = .ok (.iload_n 3, 1) := by decide +kernel
theorem dX1_succeeds_181 : decode cX1_succeeds 181 = .ok (.invokevirtual 40, 3) := by decide +kernel
theorem dX1_succeeds_184 : decode cX1_succeeds 184 = .ok (.ifCond .eq 22, 3) := by decide +kernel
theorem dX1_succeeds_187 : decode cX1_succeeds 187 = .ok (.aload_n 0, 1) := by decide +kernel
theorem dX1_succeeds_188 : decode cX1_succeeds 188 = .ok (.getfield 25, 3) := by decide +kernel
theorem dX1_succeeds_191 : decode cX1_succeeds 191 = .ok (.iload_n 2, 1) := by decide +kernel
theorem dX1_succeeds_192 : decode cX1_succeeds 192 = .ok (.iaload, 1) := by decide +kernel
theorem dX1_succeeds_193 : decode cX1_succeeds 193 = .ok (.iload_n 3, 1) := by decide +kernel
theorem dX1_succeeds_194 : decode cX1_succeeds 194 = .ok (.invokestatic 46, 3) := by decide +kernel
theorem dX1_succeeds_197 : decode cX1_succeeds 197 = .ok (.iload 4, 2) := by decide +kernel
theorem dX1_succeeds_199 : decode cX1_succeeds 199 = .ok (.if_icmp .ne 7, 3) := by decide +kernel
theorem dX1_succeeds_202 : decode cX1_succeeds 202 = .ok (.iconst 1, 1) := by decide +kernel
theorem dX1_succeeds_203 : decode cX1_succeeds 203 = .ok (.goto 4, 3) := by decide +kernel
theorem dX1_succeeds_206 : decode cX1_succeeds 206 = .ok (.iconst 0, 1) := by decide +kernel
theorem dX1_succeeds_207 : decode cX1_succeeds 207 = .ok (.ireturn, 1) := by decide +kernel
theorem dX1_succeeds_208 : decode cX1_succeeds 208 = .ok (.aload_n 0, 1) := by decide +kernel
theorem dX1_succeeds_209 : decode cX1_succeeds 209 = .ok (.getfield 9, 3) := by decide +kernel
theorem dX1_succeeds_212 : decode cX1_succeeds 212 = .ok (.iload_n 2, 1) := by decide +kernel
theorem dX1_succeeds_213 : decode cX1_succeeds 213 = .ok (.iload_n 3, 1) := by decide +kernel
theorem dX1_succeeds_214 : decode cX1_succeeds 214 = .ok (.invokevirtual 40, 3) := by decide +kernel
theorem dX1_succeeds_217 : decode cX1_succeeds 217 = .ok (.ifCond .eq 18, 3) := by decide +kernel
theorem dX1_succeeds_220 : decode cX1_succeeds 220 = .ok (.aload_n 0, 1) := by decide +kernel
theorem dX1_succeeds_221 : decode cX1_succeeds 221 = .ok (.iload_n 2, 1) := by decide +kernel
theorem dX1_succeeds_222 : decode cX1_succeeds 222 = .ok (.iload_n 3, 1) := by decide +kernel
theorem dX1_succeeds_223 : decode cX1_succeeds 223 = .ok (.invokevirtual 52, 3) := by decide +kernel
theorem dX1_succeeds_226 : decode cX1_succeeds 226 = .ok (.iload 4, 2) := by decide +kernel
theorem dX1_succeeds_228 : decode cX1_succeeds 228 = .ok (.if_icmp .ne 7, 3) := by decide +kernel
theorem dX1_succeeds_231 : decode cX1_succeeds 231 = .ok (.iconst 1, 1) := by decide +kernel
theorem dX1_succeeds_232 : decode cX1_succeeds 232 = .ok (.goto 4, 3) := by decide +kernel
theorem dX1_succeeds_235 : decode cX1_succeeds 235 = .ok (.iconst 0, 1) := by decide +kernel
theorem dX1_succeeds_236 : decode cX1_succeeds 236 = .ok (.ireturn, 1) := by decide +kernel
theorem dX1_succeeds_237 : decode cX1_succeeds 237 = .ok (.iload_n 2, 1) := by decide +kernel
theorem dX1_succeeds_238 : decode cX1_succeeds 238 = .ok (.ifCond .ne 21, 3) := by decide +kernel
theorem dX1_succeeds_241 : decode cX1_succeeds 241 = .ok (.aload_n 0, 1) := by decide +kernel
theorem dX1_succeeds_242 : decode cX1_succeeds 242 = .ok (.getfield 55, 3) := by decide +kernel
theorem dX1_succeeds_245 : decode cX1_succeeds 245 = .ok (.bipush 10, 2) := by decide +kernel
theorem dX1_succeeds_247 : decode cX1_succeeds 247 = .ok (.iload_n 3, 1) := by decide +kernel
theorem dX1_succeeds_248 : decode cX1_succeeds 248 = .ok (.imul, 1) := by decide +kernel
theorem dX1_succeeds_249 : decode cX1_succeeds 249 = .ok (.iload 4, 2) := by decide +kernel
theorem dX1_succeeds_251 : decode cX1_succeeds 251 = .ok (.iadd, 1) := by decide +kernel
theorem dX1_succeeds_252 : decode cX1_succeeds 252 = .ok (.if_icmp .lt 7, 3) := by decide +kernel
theorem dX1_succeeds_255 : decode cX1_succeeds 255 = .ok (.iconst 1, 1) := by decide +kernel
theorem dX1_succeeds_256 : decode cX1_succeeds 256 = .ok (.goto 4, 3) := by decide +kernel
theorem dX1_succeeds_259 : decode cX1_succeeds 259 = .ok (.iconst 0, 1) := by decide +kernel
theorem dX1_succeeds_260 : decode cX1_succeeds 260 = .ok (.ireturn, 1) := by decide +kernel
theorem dX1_succeeds_261 : decode cX1_succeeds 261 = .ok (.iconst 0, 1) := by decide +kernel
theorem dX1_succeeds_262 : decode cX1_succeeds 262 = .ok (.ireturn, 1) := by decide +kernel
theorem dX1_setVersion_0 : decode cX1_setVersion 0 = .ok (.aload_n 0, 1) := by decide +kernel
theorem dX1_setVersion_1 : decode cX1_setVersion 1 = .ok (.iload_n 2, 1) := by decide +kernel
theorem dX1_setVersion_2 : decode cX1_setVersion 2 = .ok (.iload_n 3, 1) := by decide +kernel
theorem dX1_setVersion_3 : decode cX1_setVersion 3 = .ok (.invokevirtual 40, 3) := by decide +kernel
theorem dX1_setVersion_6 : decode cX1_setVersion 6 = .ok (.ifCond .eq 9, 3) := by decide +kernel
theorem dX1_setVersion_9 : decode cX1_setVersion 9 = .ok (.iload 4, 2) := by decide +kernel
theorem dX1_setVersion_11 : decode cX1_setVersion 11 = .ok (.iconst 3, 1) := by decide +kernel
theorem dX1_setVersion_12 : decode cX1_setVersion 12 = .ok (.if_icmp .le 5, 3) := by decide +kernel
theorem dX1_setVersion_15 : decode cX1_setVersion 15 = .ok (.iconst 0, 1) := by decide +kernel
theorem dX1_setVersion_16 : decode cX1_setVersion 16 = .ok (.ireturn, 1) := by decide +kernel
theorem dX1_setVersion_17 : decode cX1_setVersion 17 = .ok (.aload_n 1, 1) := by decide +kernel
theorem dX1_setVersion_18 : decode cX1_setVersion 18 = .ok (.iload_n 2, 1) := by decide +kernel
theorem dX1_setVersion_19 : decode cX1_setVersion 19 = .ok (.aload_n 1, 1) := by decide +kernel
theorem dX1_setVersion_20 : decode cX1_setVersion 20 = .ok (.iload_n 2, 1) := by decide +kernel
theorem dX1_setVersion_21 : decode cX1_setVersion 21 = .ok (.iaload, 1) := by decide +kernel
theorem dX1_setVersion_22 : decode cX1_setVersion 22 = .ok (.iload_n 3, 1) := by decide +kernel
theorem dX1_setVersion_23 : decode cX1_setVersion 23 = .ok (.iload 4, 2) := by decide +kernel
theorem dX1_setVersion_25 : decode cX1_setVersion 25 = .ok (.invokestatic 59, 3) := by decide +kernel
theorem dX1_setVersion_28 : decode cX1_setVersion 28 = .ok (.iastore, 1) := by decide +kernel
theorem dX1_setVersion_29 : decode cX1_setVersion 29 = .ok (.iconst 1, 1) := by decide +kernel
theorem dX1_setVersion_30 : decode cX1_setVersion 30 = .ok (.ireturn, 1) := by decide +kernel
theorem dX1_addApproval_0 : decode cX1_addApproval 0 = .ok (.iload_n 1, 1) := by decide +kernel
theorem dX1_addApproval_1 : decode cX1_addApproval 1 = .ok (.aload_n 0, 1) := by decide +kernel
theorem dX1_addApproval_2 : decode cX1_addApproval 2 = .ok (.getfield 9, 3) := by decide +kernel
theorem dX1_addApproval_5 : decode cX1_addApproval 5 = .ok (.getfield 63, 3) := by decide +kernel
theorem dX1_addApproval_8 : decode cX1_addApproval 8 = .ok (.if_icmp .ge 13, 3) := by decide +kernel
theorem dX1_addApproval_11 : decode cX1_addApproval 11 = .ok (.iload_n 2, 1) := by decide +kernel
theorem dX1_addApproval_12 : decode cX1_addApproval 12 = .ok (.iconst 3, 1) := by decide +kernel
theorem dX1_addApproval_13 : decode cX1_addApproval 13 = .ok (.if_icmp .gt 8, 3) := by decide +kernel
theorem dX1_addApproval_16 : decode cX1_addApproval 16 = .ok (.iload_n 3, 1) := by decide +kernel
theorem dX1_addApproval_17 : decode cX1_addApproval 17 = .ok (.iconst 5, 1) := by decide +kernel
theorem dX1_addApproval_18 : decode cX1_addApproval 18 = .ok (.if_icmp .lt 5, 3) := by decide +kernel
theorem dX1_addApproval_21 : decode cX1_addApproval 21 = .ok (.iconst 0, 1) := by decide +kernel
theorem dX1_addApproval_22 : decode cX1_addApproval 22 = .ok (.ireturn, 1) := by decide +kernel
theorem dX1_addApproval_23 : decode cX1_addApproval 23 = .ok (.aload_n 0, 1) := by decide +kernel
theorem dX1_addApproval_24 : decode cX1_addApproval 24 = .ok (.getfield 66, 3) := by decide +kernel
theorem dX1_addApproval_27 : decode cX1_addApproval 27 = .ok (.iload_n 1, 1) := by decide +kernel
theorem dX1_addApproval_28 : decode cX1_addApproval 28 = .ok (.iload_n 2, 1) := by decide +kernel
theorem dX1_addApproval_29 : decode cX1_addApproval 29 = .ok (.invokestatic 69, 3) := by decide +kernel
theorem dX1_addApproval_32 : decode cX1_addApproval 32 = .ok (.dup2, 1) := by decide +kernel
theorem dX1_addApproval_33 : decode cX1_addApproval 33 = .ok (.iaload, 1) := by decide +kernel
theorem dX1_addApproval_34 : decode cX1_addApproval 34 = .ok (.iconst 1, 1) := by decide +kernel
theorem dX1_addApproval_35 : decode cX1_addApproval 35 = .ok (.iload_n 3, 1) := by decide +kernel
theorem dX1_addApproval_36 : decode cX1_addApproval 36 = .ok (.ishl, 1) := by decide +kernel
theorem dX1_addApproval_37 : decode cX1_addApproval 37 = .ok (.ior, 1) := by decide +kernel
theorem dX1_addApproval_38 : decode cX1_addApproval 38 = .ok (.iastore, 1) := by decide +kernel
theorem dX1_addApproval_39 : decode cX1_addApproval 39 = .ok (.iconst 1, 1) := by decide +kernel
theorem dX1_addApproval_40 : decode cX1_addApproval 40 = .ok (.ireturn, 1) := by decide +kernel
theorem dX1_giveFaults_0 : decode cX1_giveFaults 0 = .ok (.iload_n 1, 1) := by decide +kernel
theorem dX1_giveFaults_1 : decode cX1_giveFaults 1 = .ok (.aload_n 0, 1) := by decide +kernel
theorem dX1_giveFaults_2 : decode cX1_giveFaults 2 = .ok (.getfield 9, 3) := by decide +kernel
theorem dX1_giveFaults_5 : decode cX1_giveFaults 5 = .ok (.getfield 72, 3) := by decide +kernel
theorem dX1_giveFaults_8 : decode cX1_giveFaults 8 = .ok (.if_icmp .lt 5, 3) := by decide +kernel
theorem dX1_giveFaults_11 : decode cX1_giveFaults 11 = .ok (.iconst 0, 1) := by decide +kernel
theorem dX1_giveFaults_12 : decode cX1_giveFaults 12 = .ok (.ireturn, 1) := by decide +kernel
theorem dX1_giveFaults_13 : decode cX1_giveFaults 13 = .ok (.aload_n 0, 1) := by decide +kernel
theorem dX1_giveFaults_14 : decode cX1_giveFaults 14 = .ok (.getfield 75, 3) := by decide +kernel
theorem dX1_giveFaults_17 : decode cX1_giveFaults 17 = .ok (.iload_n 1, 1) := by decide +kernel
theorem dX1_giveFaults_18 : decode cX1_giveFaults 18 = .ok (.iload_n 2, 1) := by decide +kernel
theorem dX1_giveFaults_19 : decode cX1_giveFaults 19 = .ok (.iastore, 1) := by decide +kernel
theorem dX1_giveFaults_20 : decode cX1_giveFaults 20 = .ok (.iconst 1, 1) := by decide +kernel
theorem dX1_giveFaults_21 : decode cX1_giveFaults 21 = .ok (.ireturn, 1) := by decide +kernel
theorem dX2_init_0 : decode cX2_init 0 = .ok (.aload_n 0, 1) := by decide +kernel
theorem dX2_init_1 : decode cX2_init 1 = .ok (.invokespecial 3, 3) := by decide +kernel
theorem dX2_init_4 : decode cX2_init 4 = .ok (.aload_n 0, 1) := by decide +kernel
theorem dX2_init_5 : decode cX2_init 5 = .ok (.bipush 14, 2) := by decide +kernel
theorem dX2_init_7 : decode cX2_init 7 = .ok (.anewarray 9, 3) := by decide +kernel
theorem dX2_init_10 : decode cX2_init 10 = .ok (.putfield 11, 3) := by decide +kernel
theorem dX2_init_13 : decode cX2_init 13 = .ok (.iconst 0, 1) := by decide +kernel
theorem dX2_init_14 : decode cX2_init 14 = .ok (.istore_n 2, 1) := by decide +kernel
theorem dX2_init_15 : decode cX2_init 15 = .ok (.iload_n 2, 1) := by decide +kernel
theorem dX2_init_16 : decode cX2_init 16 = .ok (.bipush 14, 2) := by decide +kernel
theorem dX2_init_18 : decode cX2_init 18 = .ok (.if_icmp .ge 23, 3) := by decide +kernel
theorem dX2_init_21 : decode cX2_init 21 = .ok (.aload_n 0, 1) := by decide +kernel
theorem dX2_init_22 : decode cX2_init 22 = .ok (.getfield 11, 3) := by decide +kernel
theorem dX2_init_25 : decode cX2_init 25 = .ok (.iload_n 2, 1) := by decide +kernel
theorem dX2_init_26 : decode cX2_init 26 = .ok (.new 9, 3) := by decide +kernel
theorem dX2_init_29 : decode cX2_init 29 = .ok (.dup, 1) := by decide +kernel
theorem dX2_init_30 : decode cX2_init 30 = .ok (.aload_n 1, 1) := by decide +kernel
theorem dX2_init_31 : decode cX2_init 31 = .ok (.invokespecial 17, 3) := by decide +kernel
theorem dX2_init_34 : decode cX2_init 34 = .ok (.aastore, 1) := by decide +kernel
theorem dX2_init_35 : decode cX2_init 35 = .ok (.iinc 2 1, 3) := by decide +kernel
theorem dX2_init_38 : decode cX2_init 38 = .ok (.goto (-23), 3) := by decide +kernel
theorem dX2_init_41 : decode cX2_init 41 = .ok (.return_, 1) := by decide +kernel
theorem dX2_forget_0 : decode cX2_forget 0 = .ok (.aload_n 0, 1) := by decide +kernel
theorem dX2_forget_1 : decode cX2_forget 1 = .ok (.iconst 0, 1) := by decide +kernel
theorem dX2_forget_2 : decode cX2_forget 2 = .ok (.putfield 20, 3) := by decide +kernel
theorem dX2_forget_5 : decode cX2_forget 5 = .ok (.return_, 1) := by decide +kernel
theorem dX2_remember_0 : decode cX2_remember 0 = .ok (.aload_n 0, 1) := by decide +kernel
theorem dX2_remember_1 : decode cX2_remember 1 = .ok (.aload_n 0, 1) := by decide +kernel
theorem dX2_remember_2 : decode cX2_remember 2 = .ok (.getfield 24, 3) := by decide +kernel
theorem dX2_remember_5 : decode cX2_remember 5 = .ok (.iconst 1, 1) := by decide +kernel
theorem dX2_remember_6 : decode cX2_remember 6 = .ok (.iadd, 1) := by decide +kernel
theorem dX2_remember_7 : decode cX2_remember 7 = .ok (.bipush 14, 2) := by decide +kernel
theorem dX2_remember_9 : decode cX2_remember 9 = .ok (.if_icmp .ge 12, 3) := by decide +kernel
theorem dX2_remember_12 : decode cX2_remember 12 = .ok (.aload_n 0, 1) := by decide +kernel
theorem dX2_remember_13 : decode cX2_remember 13 = .ok (.getfield 24, 3) := by decide +kernel
theorem dX2_remember_16 : decode cX2_remember 16 = .ok (.iconst 1, 1) := by decide +kernel
theorem dX2_remember_17 : decode cX2_remember 17 = .ok (.iadd, 1) := by decide +kernel
theorem dX2_remember_18 : decode cX2_remember 18 = .ok (.goto 4, 3) := by decide +kernel
theorem dX2_remember_21 : decode cX2_remember 21 = .ok (.iconst 0, 1) := by decide +kernel
theorem dX2_remember_22 : decode cX2_remember 22 = .ok (.putfield 24, 3) := by decide +kernel
theorem dX2_remember_25 : decode cX2_remember 25 = .ok (.aload_n 0, 1) := by decide +kernel
theorem dX2_remember_26 : decode cX2_remember 26 = .ok (.getfield 11, 3) := by decide +kernel
theorem dX2_remember_29 : decode cX2_remember 29 = .ok (.aload_n 0, 1) := by decide +kernel
theorem dX2_remember_30 : decode cX2_remember 30 = .ok (.getfield 24, 3) := by decide +kernel
theorem dX2_remember_33 : decode cX2_remember 33 = .ok (.aaload, 1) := by decide +kernel
theorem dX2_remember_34 : decode cX2_remember 34 = .ok (.aload_n 1, 1) := by decide +kernel
theorem dX2_remember_35 : decode cX2_remember 35 = .ok (.invokevirtual 27, 3) := by decide +kernel
theorem dX2_remember_38 : decode cX2_remember 38 = .ok (.aload_n 0, 1) := by decide +kernel
theorem dX2_remember_39 : decode cX2_remember 39 = .ok (.aload_n 0, 1) := by decide +kernel
theorem dX2_remember_40 : decode cX2_remember 40 = .ok (.getfield 20, 3) := by decide +kernel
theorem dX2_remember_43 : decode cX2_remember 43 = .ok (.iconst 1, 1) := by decide +kernel
theorem dX2_remember_44 : decode cX2_remember 44 = .ok (.iadd, 1) := by decide +kernel
theorem dX2_remember_45 : decode cX2_remember 45 = .ok (.bipush 14, 2) := by decide +kernel
theorem dX2_remember_47 : decode cX2_remember 47 = .ok (.invokestatic 31, 3) := by decide +kernel
theorem dX2_remember_50 : decode cX2_remember 50 = .ok (.putfield 20, 3) := by decide +kernel
theorem dX2_remember_53 : decode cX2_remember 53 = .ok (.return_, 1) := by decide +kernel
theorem dX2_takeBack_0 : decode cX2_takeBack 0 = .ok (.aload_n 0, 1) := by decide +kernel
theorem dX2_takeBack_1 : decode cX2_takeBack 1 = .ok (.getfield 20, 3) := by decide +kernel
theorem dX2_takeBack_4 : decode cX2_takeBack 4 = .ok (.ifCond .ne 4, 3) := by decide +kernel
theorem dX2_takeBack_7 : decode cX2_takeBack 7 = .ok (.return_, 1) := by decide +kernel
theorem dX2_takeBack_8 : decode cX2_takeBack 8 = .ok (.aload_n 1, 1) := by decide +kernel
theorem dX2_takeBack_9 : decode cX2_takeBack 9 = .ok (.aload_n 0, 1) := by decide +kernel
theorem dX2_takeBack_10 : decode cX2_takeBack 10 = .ok (.getfield 11, 3) := by decide +kernel
theorem dX2_takeBack_13 : decode cX2_takeBack 13 = .ok (.aload_n 0, 1) := by decide +kernel
theorem dX2_takeBack_14 : decode cX2_takeBack 14 = .ok (.getfield 24, 3) := by decide +kernel
theorem dX2_takeBack_17 : decode cX2_takeBack 17 = .ok (.aaload, 1) := by decide +kernel
theorem dX2_takeBack_18 : decode cX2_takeBack 18 = .ok (.invokevirtual 27, 3) := by decide +kernel
theorem dX2_takeBack_21 : decode cX2_takeBack 21 = .ok (.aload_n 0, 1) := by decide +kernel
theorem dX2_takeBack_22 : decode cX2_takeBack 22 = .ok (.aload_n 0, 1) := by decide +kernel
theorem dX2_takeBack_23 : decode cX2_takeBack 23 = .ok (.getfield 24, 3) := by decide +kernel
theorem dX2_takeBack_26 : decode cX2_takeBack 26 = .ok (.ifCond .le 12, 3) := by decide +kernel
theorem dX2_takeBack_29 : decode cX2_takeBack 29 = .ok (.aload_n 0, 1) := by decide +kernel
theorem dX2_takeBack_30 : decode cX2_takeBack 30 = .ok (.getfield 24, 3) := by decide +kernel
theorem dX2_takeBack_33 : decode cX2_takeBack 33 = .ok (.iconst 1, 1) := by decide +kernel
theorem dX2_takeBack_34 : decode cX2_takeBack 34 = .ok (.isub, 1) := by decide +kernel
theorem dX2_takeBack_35 : decode cX2_takeBack 35 = .ok (.goto 5, 3) := by decide +kernel
theorem dX2_takeBack_38 : decode cX2_takeBack 38 = .ok (.bipush 13, 2) := by decide +kernel
theorem dX2_takeBack_40 : decode cX2_takeBack 40 = .ok (.putfield 24, 3) := by decide +kernel
theorem dX2_takeBack_43 : decode cX2_takeBack 43 = .ok (.aload_n 0, 1) := by decide +kernel
theorem dX2_takeBack_44 : decode cX2_takeBack 44 = .ok (.dup, 1) := by decide +kernel
theorem dX2_takeBack_45 : decode cX2_takeBack 45 = .ok (.getfield 20, 3) := by decide +kernel
theorem dX2_takeBack_48 : decode cX2_takeBack 48 = .ok (.iconst 1, 1) := by decide +kernel
theorem dX2_takeBack_49 : decode cX2_takeBack 49 = .ok (.isub, 1) := by decide +kernel
theorem dX2_takeBack_50 : decode cX2_takeBack 50 = .ok (.putfield 20, 3) := by decide +kernel
theorem dX2_takeBack_53 : decode cX2_takeBack 53 = .ok (.return_, 1) := by decide +kernel
theorem dX3_init_0 : decode cX3_init 0 = .ok (.aload_n 0, 1) := by decide +kernel
theorem dX3_init_1 : decode cX3_init 1 = .ok (.invokespecial 3, 3) := by decide +kernel
theorem dX3_init_4 : decode cX3_init 4 = .ok (.aload_n 0, 1) := by decide +kernel
theorem dX3_init_5 : decode cX3_init 5 = .ok (.iconst 1, 1) := by decide +kernel
theorem dX3_init_6 : decode cX3_init 6 = .ok (.putfield 9, 3) := by decide +kernel
theorem dX3_init_9 : decode cX3_init 9 = .ok (.aload_n 0, 1) := by decide +kernel
theorem dX3_init_10 : decode cX3_init 10 = .ok (.iconst 1, 1) := by decide +kernel
theorem dX3_init_11 : decode cX3_init 11 = .ok (.putfield 15, 3) := by decide +kernel
theorem dX3_init_14 : decode cX3_init 14 = .ok (.aload_n 0, 1) := by decide +kernel
theorem dX3_init_15 : decode cX3_init 15 = .ok (.iconst 3, 1) := by decide +kernel
theorem dX3_init_16 : decode cX3_init 16 = .ok (.putfield 18, 3) := by decide +kernel
theorem dX3_init_19 : decode cX3_init 19 = .ok (.aload_n 0, 1) := by decide +kernel
theorem dX3_init_20 : decode cX3_init 20 = .ok (.iconst 5, 1) := by decide +kernel
theorem dX3_init_21 : decode cX3_init 21 = .ok (.putfield 21, 3) := by decide +kernel
theorem dX3_init_24 : decode cX3_init 24 = .ok (.aload_n 0, 1) := by decide +kernel
theorem dX3_init_25 : decode cX3_init 25 = .ok (.iconst 5, 1) := by decide +kernel
theorem dX3_init_26 : decode cX3_init 26 = .ok (.newarray .int, 2) := by decide +kernel
theorem dX3_init_28 : decode cX3_init 28 = .ok (.putfield 24, 3) := by decide +kernel
theorem dX3_init_31 : decode cX3_init 31 = .ok (.aload_n 0, 1) := by decide +kernel
theorem dX3_init_32 : decode cX3_init 32 = .ok (.new 28, 3) := by decide +kernel
theorem dX3_init_35 : decode cX3_init 35 = .ok (.dup, 1) := by decide +kernel
theorem dX3_init_36 : decode cX3_init 36 = .ok (.invokespecial 30, 3) := by decide +kernel
theorem dX3_init_39 : decode cX3_init 39 = .ok (.putfield 31, 3) := by decide +kernel
theorem dX3_init_42 : decode cX3_init 42 = .ok (.return_, 1) := by decide +kernel
theorem dX3_take_0 : decode cX3_take 0 = .ok (.aload_n 0, 1) := by decide +kernel
theorem dX3_take_1 : decode cX3_take 1 = .ok (.aload_n 1, 1) := by decide +kernel
theorem dX3_take_2 : decode cX3_take 2 = .ok (.getfield 35, 3) := by decide +kernel
theorem dX3_take_5 : decode cX3_take 5 = .ok (.putfield 9, 3) := by decide +kernel
theorem dX3_take_8 : decode cX3_take 8 = .ok (.aload_n 0, 1) := by decide +kernel
theorem dX3_take_9 : decode cX3_take 9 = .ok (.aload_n 1, 1) := by decide +kernel
theorem dX3_take_10 : decode cX3_take 10 = .ok (.getfield 38, 3) := by decide +kernel
theorem dX3_take_13 : decode cX3_take 13 = .ok (.putfield 15, 3) := by decide +kernel
theorem dX3_take_16 : decode cX3_take 16 = .ok (.aload_n 0, 1) := by decide +kernel
theorem dX3_take_17 : decode cX3_take 17 = .ok (.aload_n 1, 1) := by decide +kernel
theorem dX3_take_18 : decode cX3_take 18 = .ok (.getfield 39, 3) := by decide +kernel
theorem dX3_take_21 : decode cX3_take 21 = .ok (.putfield 18, 3) := by decide +kernel
theorem dX3_take_24 : decode cX3_take 24 = .ok (.aload_n 0, 1) := by decide +kernel
theorem dX3_take_25 : decode cX3_take 25 = .ok (.aload_n 1, 1) := by decide +kernel
theorem dX3_take_26 : decode cX3_take 26 = .ok (.getfield 40, 3) := by decide +kernel
theorem dX3_take_29 : decode cX3_take 29 = .ok (.putfield 21, 3) := by decide +kernel
theorem dX3_take_32 : decode cX3_take 32 = .ok (.aload_n 1, 1) := by decide +kernel
theorem dX3_take_33 : decode cX3_take 33 = .ok (.getfield 41, 3) := by decide +kernel
theorem dX3_take_36 : decode cX3_take 36 = .ok (.iconst 0, 1) := by decide +kernel
theorem dX3_take_37 : decode cX3_take 37 = .ok (.aload_n 0, 1) := by decide +kernel
theorem dX3_take_38 : decode cX3_take 38 = .ok (.getfield 24, 3) := by decide +kernel
theorem dX3_take_41 : decode cX3_take 41 = .ok (.iconst 0, 1) := by decide +kernel
theorem dX3_take_42 : decode cX3_take 42 = .ok (.iconst 5, 1) := by decide +kernel
theorem dX3_take_43 : decode cX3_take 43 = .ok (.invokestatic 42, 3) := by decide +kernel
theorem dX3_take_46 : decode cX3_take 46 = .ok (.aload_n 0, 1) := by decide +kernel
theorem dX3_take_47 : decode cX3_take 47 = .ok (.getfield 31, 3) := by decide +kernel
theorem dX3_take_50 : decode cX3_take 50 = .ok (.aload_n 0, 1) := by decide +kernel
theorem dX3_take_51 : decode cX3_take 51 = .ok (.getfield 15, 3) := by decide +kernel
theorem dX3_take_54 : decode cX3_take 54 = .ok (.invokevirtual 48, 3) := by decide +kernel
theorem dX3_take_57 : decode cX3_take 57 = .ok (.iconst 0, 1) := by decide +kernel
theorem dX3_take_58 : decode cX3_take 58 = .ok (.istore_n 2, 1) := by decide +kernel
theorem dX3_take_59 : decode cX3_take 59 = .ok (.iload_n 2, 1) := by decide +kernel
theorem dX3_take_60 : decode cX3_take 60 = .ok (.aload_n 1, 1) := by decide +kernel
theorem dX3_take_61 : decode cX3_take 61 = .ok (.getfield 52, 3) := by decide +kernel
theorem dX3_take_64 : decode cX3_take 64 = .ok (.if_icmp .ge 23, 3) := by decide +kernel
theorem dX3_take_67 : decode cX3_take 67 = .ok (.aload_n 0, 1) := by decide +kernel
theorem dX3_take_68 : decode cX3_take 68 = .ok (.getfield 31, 3) := by decide +kernel
theorem dX3_take_71 : decode cX3_take 71 = .ok (.aload_n 1, 1) := by decide +kernel
theorem dX3_take_72 : decode cX3_take 72 = .ok (.getfield 55, 3) := by decide +kernel
theorem dX3_take_75 : decode cX3_take 75 = .ok (.iload_n 2, 1) := by decide +kernel
theorem dX3_take_76 : decode cX3_take 76 = .ok (.iconst 5, 1) := by decide +kernel
theorem dX3_take_77 : decode cX3_take 77 = .ok (.imul, 1) := by decide +kernel
theorem dX3_take_78 : decode cX3_take 78 = .ok (.invokevirtual 57, 3) := by decide +kernel
theorem dX3_take_81 : decode cX3_take 81 = .ok (.iinc 2 1, 3) := by decide +kernel
theorem dX3_take_84 : decode cX3_take 84 = .ok (.goto (-25), 3) := by decide +kernel
theorem dX3_take_87 : decode cX3_take 87 = .ok (.return_, 1) := by decide +kernel
theorem dX3_has_0 : decode cX3_has 0 = .ok (.iload_n 1, 1) := by decide +kernel
theorem dX3_has_1 : decode cX3_has 1 = .ok (.ifCond .lt 27, 3) := by decide +kernel
theorem dX3_has_4 : decode cX3_has 4 = .ok (.iload_n 1, 1) := by decide +kernel
theorem dX3_has_5 : decode cX3_has 5 = .ok (.aload_n 0, 1) := by decide +kernel
theorem dX3_has_6 : decode cX3_has 6 = .ok (.getfield 9, 3) := by decide +kernel
theorem dX3_has_9 : decode cX3_has 9 = .ok (.if_icmp .ge 19, 3) := by decide +kernel
theorem dX3_has_12 : decode cX3_has 12 = .ok (.iload_n 2, 1) := by decide +kernel
theorem dX3_has_13 : decode cX3_has 13 = .ok (.ifCond .lt 15, 3) := by decide +kernel
theorem dX3_has_16 : decode cX3_has 16 = .ok (.iload_n 2, 1) := by decide +kernel
theorem dX3_has_17 : decode cX3_has 17 = .ok (.aload_n 0, 1) := by decide +kernel
theorem dX3_has_18 : decode cX3_has 18 = .ok (.getfield 15, 3) := by decide +kernel
theorem dX3_has_21 : decode cX3_has 21 = .ok (.if_icmp .ge 7, 3) := by decide +kernel
theorem dX3_has_24 : decode cX3_has 24 = .ok (.iconst 1, 1) := by decide +kernel
theorem dX3_has_25 : decode cX3_has 25 = .ok (.goto 4, 3) := by decide +kernel
theorem dX3_has_28 : decode cX3_has 28 = .ok (.iconst 0, 1) := by decide +kernel
theorem dX3_has_29 : decode cX3_has 29 = .ok (.ireturn, 1) := by decide +kernel
theorem dX4_init_0 : decode cX4_init 0 = .ok (.aload_n 0, 1) := by decide +kernel
theorem dX4_init_1 : decode cX4_init 1 = .ok (.invokespecial 3, 3) := by decide +kernel
theorem dX4_init_4 : decode cX4_init 4 = .ok (.aload_n 0, 1) := by decide +kernel
theorem dX4_init_5 : decode cX4_init 5 = .ok (.bipush 50, 2) := by decide +kernel
theorem dX4_init_7 : decode cX4_init 7 = .ok (.newarray .int, 2) := by decide +kernel
theorem dX4_init_9 : decode cX4_init 9 = .ok (.putfield 11, 3) := by decide +kernel
theorem dX4_init_12 : decode cX4_init 12 = .ok (.aload_n 0, 1) := by decide +kernel
theorem dX4_init_13 : decode cX4_init 13 = .ok (.sipush 4096, 3) := by decide +kernel
theorem dX4_init_16 : decode cX4_init 16 = .ok (.newarray .int, 2) := by decide +kernel
theorem dX4_init_18 : decode cX4_init 18 = .ok (.putfield 15, 3) := by decide +kernel
theorem dX4_init_21 : decode cX4_init 21 = .ok (.aload_n 0, 1) := by decide +kernel
theorem dX4_init_22 : decode cX4_init 22 = .ok (.iconst 4, 1) := by decide +kernel
theorem dX4_init_23 : decode cX4_init 23 = .ok (.putfield 18, 3) := by decide +kernel
theorem dX4_init_26 : decode cX4_init 26 = .ok (.return_, 1) := by decide +kernel
theorem dX4_clear_0 : decode cX4_clear 0 = .ok (.aload_n 0, 1) := by decide +kernel
theorem dX4_clear_1 : decode cX4_clear 1 = .ok (.iconst 0, 1) := by decide +kernel
theorem dX4_clear_2 : decode cX4_clear 2 = .ok (.putfield 22, 3) := by decide +kernel
theorem dX4_clear_5 : decode cX4_clear 5 = .ok (.aload_n 0, 1) := by decide +kernel
theorem dX4_clear_6 : decode cX4_clear 6 = .ok (.iconst 1, 1) := by decide +kernel
theorem dX4_clear_7 : decode cX4_clear 7 = .ok (.iconst 2, 1) := by decide +kernel
theorem dX4_clear_8 : decode cX4_clear 8 = .ok (.iload_n 1, 1) := by decide +kernel
theorem dX4_clear_9 : decode cX4_clear 9 = .ok (.imul, 1) := by decide +kernel
theorem dX4_clear_10 : decode cX4_clear 10 = .ok (.ishl, 1) := by decide +kernel
theorem dX4_clear_11 : decode cX4_clear 11 = .ok (.sipush 4096, 3) := by decide +kernel
theorem dX4_clear_14 : decode cX4_clear 14 = .ok (.invokestatic 25, 3) := by decide +kernel
theorem dX4_clear_17 : decode cX4_clear 17 = .ok (.putfield 18, 3) := by decide +kernel
theorem dX4_clear_20 : decode cX4_clear 20 = .ok (.aload_n 0, 1) := by decide +kernel
theorem dX4_clear_21 : decode cX4_clear 21 = .ok (.getfield 15, 3) := by decide +kernel
theorem dX4_clear_24 : decode cX4_clear 24 = .ok (.iconst 0, 1) := by decide +kernel
theorem dX4_clear_25 : decode cX4_clear 25 = .ok (.invokestatic 31, 3) := by decide +kernel
theorem dX4_clear_28 : decode cX4_clear 28 = .ok (.return_, 1) := by decide +kernel
theorem dX4_add_0 : decode cX4_add 0 = .ok (.aload_n 0, 1) := by decide +kernel
theorem dX4_add_1 : decode cX4_add 1 = .ok (.getfield 22, 3) := by decide +kernel
theorem dX4_add_4 : decode cX4_add 4 = .ok (.bipush 10, 2) := by decide +kernel
theorem dX4_add_6 : decode cX4_add 6 = .ok (.if_icmp .ge 15, 3) := by decide +kernel
theorem dX4_add_9 : decode cX4_add 9 = .ok (.iload_n 2, 1) := by decide +kernel
theorem dX4_add_10 : decode cX4_add 10 = .ok (.ifCond .lt 11, 3) := by decide +kernel
theorem dX4_add_13 : decode cX4_add 13 = .ok (.iload_n 2, 1) := by decide +kernel
theorem dX4_add_14 : decode cX4_add 14 = .ok (.iconst 5, 1) := by decide +kernel
theorem dX4_add_15 : decode cX4_add 15 = .ok (.iadd, 1) := by decide +kernel
theorem dX4_add_16 : decode cX4_add 16 = .ok (.aload_n 1, 1) := by decide +kernel
theorem dX4_add_17 : decode cX4_add 17 = .ok (.arraylength, 1) := by decide +kernel
theorem dX4_add_18 : decode cX4_add 18 = .ok (.if_icmp .le 4, 3) := by decide +kernel
theorem dX4_add_21 : decode cX4_add 21 = .ok (.return_, 1) := by decide +kernel
theorem dX4_add_22 : decode cX4_add 22 = .ok (.aload_n 1, 1) := by decide +kernel
theorem dX4_add_23 : decode cX4_add 23 = .ok (.iload_n 2, 1) := by decide +kernel
theorem dX4_add_24 : decode cX4_add 24 = .ok (.aload_n 0, 1) := by decide +kernel
theorem dX4_add_25 : decode cX4_add 25 = .ok (.getfield 11, 3) := by decide +kernel
theorem dX4_add_28 : decode cX4_add 28 = .ok (.aload_n 0, 1) := by decide +kernel
theorem dX4_add_29 : decode cX4_add 29 = .ok (.getfield 22, 3) := by decide +kernel
theorem dX4_add_32 : decode cX4_add 32 = .ok (.iconst 5, 1) := by decide +kernel
theorem dX4_add_33 : decode cX4_add 33 = .ok (.imul, 1) := by decide +kernel
theorem dX4_add_34 : decode cX4_add 34 = .ok (.iconst 5, 1) := by decide +kernel
theorem dX4_add_35 : decode cX4_add 35 = .ok (.invokestatic 37, 3) := by decide +kernel
theorem dX4_add_38 : decode cX4_add 38 = .ok (.aload_n 0, 1) := by decide +kernel
theorem dX4_add_39 : decode cX4_add 39 = .ok (.getfield 22, 3) := by decide +kernel
theorem dX4_add_42 : decode cX4_add 42 = .ok (.istore_n 3, 1) := by decide +kernel
theorem dX4_add_43 : decode cX4_add 43 = .ok (.aload_n 0, 1) := by decide +kernel
theorem dX4_add_44 : decode cX4_add 44 = .ok (.dup, 1) := by decide +kernel
theorem dX4_add_45 : decode cX4_add 45 = .ok (.getfield 22, 3) := by decide +kernel
theorem dX4_add_48 : decode cX4_add 48 = .ok (.iconst 1, 1) := by decide +kernel
theorem dX4_add_49 : decode cX4_add 49 = .ok (.iadd, 1) := by decide +kernel
theorem dX4_add_50 : decode cX4_add 50 = .ok (.putfield 22, 3) := by decide +kernel
theorem dX4_add_53 : decode cX4_add 53 = .ok (.iconst 0, 1) := by decide +kernel
theorem dX4_add_54 : decode cX4_add 54 = .ok (.istore 4, 2) := by decide +kernel
theorem dX4_add_56 : decode cX4_add 56 = .ok (.iload 4, 2) := by decide +kernel
theorem dX4_add_58 : decode cX4_add 58 = .ok (.aload_n 0, 1) := by decide +kernel
theorem dX4_add_59 : decode cX4_add 59 = .ok (.getfield 18, 3) := by decide +kernel
theorem dX4_add_62 : decode cX4_add 62 = .ok (.if_icmp .ge 32, 3) := by decide +kernel
theorem dX4_add_65 : decode cX4_add 65 = .ok (.aload_n 0, 1) := by decide +kernel
theorem dX4_add_66 : decode cX4_add 66 = .ok (.iload_n 3, 1) := by decide +kernel
theorem dX4_add_67 : decode cX4_add 67 = .ok (.iload 4, 2) := by decide +kernel
theorem dX4_add_69 : decode cX4_add 69 = .ok (.invokevirtual 43, 3) := by decide +kernel
theorem dX4_add_72 : decode cX4_add 72 = .ok (.ifCond .eq 16, 3) := by decide +kernel
theorem dX4_add_75 : decode cX4_add 75 = .ok (.aload_n 0, 1) := by decide +kernel
theorem dX4_add_76 : decode cX4_add 76 = .ok (.getfield 15, 3) := by decide +kernel
theorem dX4_add_79 : decode cX4_add 79 = .ok (.iload 4, 2) := by decide +kernel
theorem dX4_add_81 : decode cX4_add 81 = .ok (.dup2, 1) := by decide +kernel
theorem dX4_add_82 : decode cX4_add 82 = .ok (.iaload, 1) := by decide +kernel
theorem dX4_add_83 : decode cX4_add 83 = .ok (.iconst 1, 1) := by decide +kernel
theorem dX4_add_84 : decode cX4_add 84 = .ok (.iload_n 3, 1) := by decide +kernel
theorem dX4_add_85 : decode cX4_add 85 = .ok (.ishl, 1) := by decide +kernel
theorem dX4_add_86 : decode cX4_add 86 = .ok (.ior, 1) := by decide +kernel
theorem dX4_add_87 : decode cX4_add 87 = .ok (.iastore, 1) := by decide +kernel
theorem dX4_add_88 : decode cX4_add 88 = .ok (.iinc 4 1, 3) := by decide +kernel
theorem dX4_add_91 : decode cX4_add 91 = .ok (.goto (-35), 3) := by decide +kernel
theorem dX4_add_94 : decode cX4_add 94 = .ok (.return_, 1) := by decide +kernel
theorem dX4_part_0 : decode cX4_part 0 = .ok (.aload_n 0, 1) := by decide +kernel
theorem dX4_part_1 : decode cX4_part 1 = .ok (.getfield 11, 3) := by decide +kernel
theorem dX4_part_4 : decode cX4_part 4 = .ok (.iload_n 1, 1) := by decide +kernel
theorem dX4_part_5 : decode cX4_part 5 = .ok (.iconst 5, 1) := by decide +kernel
theorem dX4_part_6 : decode cX4_part 6 = .ok (.imul, 1) := by decide +kernel
theorem dX4_part_7 : decode cX4_part 7 = .ok (.iload_n 2, 1) := by decide +kernel
theorem dX4_part_8 : decode cX4_part 8 = .ok (.iadd, 1) := by decide +kernel
theorem dX4_part_9 : decode cX4_part 9 = .ok (.iaload, 1) := by decide +kernel
theorem dX4_part_10 : decode cX4_part 10 = .ok (.ireturn, 1) := by decide +kernel
theorem dX4_isBroken_0 : decode cX4_isBroken 0 = .ok (.iload_n 1, 1) := by decide +kernel
theorem dX4_isBroken_1 : decode cX4_isBroken 1 = .ok (.iconst 5, 1) := by decide +kernel
theorem dX4_isBroken_2 : decode cX4_isBroken 2 = .ok (.imul, 1) := by decide +kernel
theorem dX4_isBroken_3 : decode cX4_isBroken 3 = .ok (.istore_n 3, 1) := by decide +kernel
theorem dX4_isBroken_4 : decode cX4_isBroken 4 = .ok (.iload_n 2, 1) := by decide +kernel
theorem dX4_isBroken_5 : decode cX4_isBroken 5 = .ok (.aload_n 0, 1) := by decide +kernel
theorem dX4_isBroken_6 : decode cX4_isBroken 6 = .ok (.getfield 11, 3) := by decide +kernel
theorem dX4_isBroken_9 : decode cX4_isBroken 9 = .ok (.iload_n 3, 1) := by decide +kernel
theorem dX4_isBroken_10 : decode cX4_isBroken 10 = .ok (.iconst 1, 1) := by decide +kernel
theorem dX4_isBroken_11 : decode cX4_isBroken 11 = .ok (.iadd, 1) := by decide +kernel
theorem dX4_isBroken_12 : decode cX4_isBroken 12 = .ok (.iaload, 1) := by decide +kernel
theorem dX4_isBroken_13 : decode cX4_isBroken 13 = .ok (.invokestatic 47, 3) := by decide +kernel
theorem dX4_isBroken_16 : decode cX4_isBroken 16 = .ok (.aload_n 0, 1) := by decide +kernel
theorem dX4_isBroken_17 : decode cX4_isBroken 17 = .ok (.getfield 11, 3) := by decide +kernel
theorem dX4_isBroken_20 : decode cX4_isBroken 20 = .ok (.iload_n 3, 1) := by decide +kernel
theorem dX4_isBroken_21 : decode cX4_isBroken 21 = .ok (.iconst 2, 1) := by decide +kernel
theorem dX4_isBroken_22 : decode cX4_isBroken 22 = .ok (.iadd, 1) := by decide +kernel
theorem dX4_isBroken_23 : decode cX4_isBroken 23 = .ok (.iaload, 1) := by decide +kernel
theorem dX4_isBroken_24 : decode cX4_isBroken 24 = .ok (.if_icmp .ge 5, 3) := by decide +kernel
theorem dX4_isBroken_27 : decode cX4_isBroken 27 = .ok (.iconst 0, 1) := by decide +kernel
theorem dX4_isBroken_28 : decode cX4_isBroken 28 = .ok (.ireturn, 1) := by decide +kernel
theorem dX4_isBroken_29 : decode cX4_isBroken 29 = .ok (.iload_n 2, 1) := by decide +kernel
theorem dX4_isBroken_30 : decode cX4_isBroken 30 = .ok (.aload_n 0, 1) := by decide +kernel
theorem dX4_isBroken_31 : decode cX4_isBroken 31 = .ok (.getfield 11, 3) := by decide +kernel
theorem dX4_isBroken_34 : decode cX4_isBroken 34 = .ok (.iload_n 3, 1) := by decide +kernel
theorem dX4_isBroken_35 : decode cX4_isBroken 35 = .ok (.iconst 3, 1) := by decide +kernel
theorem dX4_isBroken_36 : decode cX4_isBroken 36 = .ok (.iadd, 1) := by decide +kernel
theorem dX4_isBroken_37 : decode cX4_isBroken 37 = .ok (.iaload, 1) := by decide +kernel
theorem dX4_isBroken_38 : decode cX4_isBroken 38 = .ok (.invokestatic 47, 3) := by decide +kernel
theorem dX4_isBroken_41 : decode cX4_isBroken 41 = .ok (.aload_n 0, 1) := by decide +kernel
theorem dX4_isBroken_42 : decode cX4_isBroken 42 = .ok (.getfield 11, 3) := by decide +kernel
theorem dX4_isBroken_45 : decode cX4_isBroken 45 = .ok (.iload_n 3, 1) := by decide +kernel
theorem dX4_isBroken_46 : decode cX4_isBroken 46 = .ok (.iconst 4, 1) := by decide +kernel
theorem dX4_isBroken_47 : decode cX4_isBroken 47 = .ok (.iadd, 1) := by decide +kernel
theorem dX4_isBroken_48 : decode cX4_isBroken 48 = .ok (.iaload, 1) := by decide +kernel
theorem dX4_isBroken_49 : decode cX4_isBroken 49 = .ok (.if_icmp .lt 7, 3) := by decide +kernel
theorem dX4_isBroken_52 : decode cX4_isBroken 52 = .ok (.iconst 1, 1) := by decide +kernel
theorem dX4_isBroken_53 : decode cX4_isBroken 53 = .ok (.goto 4, 3) := by decide +kernel
theorem dX4_isBroken_56 : decode cX4_isBroken 56 = .ok (.iconst 0, 1) := by decide +kernel
theorem dX4_isBroken_57 : decode cX4_isBroken 57 = .ok (.istore 4, 2) := by decide +kernel
theorem dX4_isBroken_59 : decode cX4_isBroken 59 = .ok (.iload 4, 2) := by decide +kernel
theorem dX4_isBroken_61 : decode cX4_isBroken 61 = .ok (.aload_n 0, 1) := by decide +kernel
theorem dX4_isBroken_62 : decode cX4_isBroken 62 = .ok (.getfield 11, 3) := by decide +kernel
theorem dX4_isBroken_65 : decode cX4_isBroken 65 = .ok (.iload_n 3, 1) := by decide +kernel
theorem dX4_isBroken_66 : decode cX4_isBroken 66 = .ok (.iaload, 1) := by decide +kernel
theorem dX4_isBroken_67 : decode cX4_isBroken 67 = .ok (.iconst 1, 1) := by decide +kernel
theorem dX4_isBroken_68 : decode cX4_isBroken 68 = .ok (.if_icmp .ne 7, 3) := by decide +kernel
theorem dX4_isBroken_71 : decode cX4_isBroken 71 = .ok (.iconst 1, 1) := by decide +kernel
theorem dX4_isBroken_72 : decode cX4_isBroken 72 = .ok (.goto 4, 3) := by decide +kernel
theorem dX4_isBroken_75 : decode cX4_isBroken 75 = .ok (.iconst 0, 1) := by decide +kernel
theorem dX4_isBroken_76 : decode cX4_isBroken 76 = .ok (.if_icmp .ne 7, 3) := by decide +kernel
theorem dX4_isBroken_79 : decode cX4_isBroken 79 = .ok (.iconst 1, 1) := by decide +kernel
theorem dX4_isBroken_80 : decode cX4_isBroken 80 = .ok (.goto 4, 3) := by decide +kernel
theorem dX4_isBroken_83 : decode cX4_isBroken 83 = .ok (.iconst 0, 1) := by decide +kernel
theorem dX4_isBroken_84 : decode cX4_isBroken 84 = .ok (.ireturn, 1) := by decide +kernel
theorem dX4_brokenOn_0 : decode cX4_brokenOn 0 = .ok (.aload_n 0, 1) := by decide +kernel
theorem dX4_brokenOn_1 : decode cX4_brokenOn 1 = .ok (.getfield 15, 3) := by decide +kernel
theorem dX4_brokenOn_4 : decode cX4_brokenOn 4 = .ok (.iload_n 1, 1) := by decide +kernel
theorem dX4_brokenOn_5 : decode cX4_brokenOn 5 = .ok (.sipush 4095, 3) := by decide +kernel
theorem dX4_brokenOn_8 : decode cX4_brokenOn 8 = .ok (.iand, 1) := by decide +kernel
theorem dX4_brokenOn_9 : decode cX4_brokenOn 9 = .ok (.iaload, 1) := by decide +kernel
theorem dX4_brokenOn_10 : decode cX4_brokenOn 10 = .ok (.ireturn, 1) := by decide +kernel
theorem dX4_newlyBroken_0 : decode cX4_newlyBroken 0 = .ok (.aload_n 0, 1) := by decide +kernel
theorem dX4_newlyBroken_1 : decode cX4_newlyBroken 1 = .ok (.getfield 15, 3) := by decide +kernel
theorem dX4_newlyBroken_4 : decode cX4_newlyBroken 4 = .ok (.iload_n 2, 1) := by decide +kernel
theorem dX4_newlyBroken_5 : decode cX4_newlyBroken 5 = .ok (.sipush 4095, 3) := by decide +kernel
theorem dX4_newlyBroken_8 : decode cX4_newlyBroken 8 = .ok (.iand, 1) := by decide +kernel
theorem dX4_newlyBroken_9 : decode cX4_newlyBroken 9 = .ok (.iaload, 1) := by decide +kernel
theorem dX4_newlyBroken_10 : decode cX4_newlyBroken 10 = .ok (.aload_n 0, 1) := by decide +kernel
theorem dX4_newlyBroken_11 : decode cX4_newlyBroken 11 = .ok (.getfield 15, 3) := by decide +kernel
theorem dX4_newlyBroken_14 : decode cX4_newlyBroken 14 = .ok (.iload_n 1, 1) := by decide +kernel
theorem dX4_newlyBroken_15 : decode cX4_newlyBroken 15 = .ok (.sipush 4095, 3) := by decide +kernel
theorem dX4_newlyBroken_18 : decode cX4_newlyBroken 18 = .ok (.iand, 1) := by decide +kernel
theorem dX4_newlyBroken_19 : decode cX4_newlyBroken 19 = .ok (.iaload, 1) := by decide +kernel
theorem dX4_newlyBroken_20 : decode cX4_newlyBroken 20 = .ok (.iconst (-1), 1) := by decide +kernel
theorem dX4_newlyBroken_21 : decode cX4_newlyBroken 21 = .ok (.ixor, 1) := by decide +kernel
theorem dX4_newlyBroken_22 : decode cX4_newlyBroken 22 = .ok (.iand, 1) := by decide +kernel
theorem dX4_newlyBroken_23 : decode cX4_newlyBroken 23 = .ok (.ireturn, 1) := by decide +kernel
theorem dX4_leastWithNeeds_0 : decode cX4_leastWithNeeds 0 = .ok (.iload_n 1, 1) := by decide +kernel
theorem dX4_leastWithNeeds_1 : decode cX4_leastWithNeeds 1 = .ok (.istore_n 2, 1) := by decide +kernel
theorem dX4_leastWithNeeds_2 : decode cX4_leastWithNeeds 2 = .ok (.iconst 0, 1) := by decide +kernel
theorem dX4_leastWithNeeds_3 : decode cX4_leastWithNeeds 3 = .ok (.istore_n 3, 1) := by decide +kernel
theorem dX4_leastWithNeeds_4 : decode cX4_leastWithNeeds 4 = .ok (.iload_n 3, 1) := by decide +kernel
theorem dX4_leastWithNeeds_5 : decode cX4_leastWithNeeds 5 = .ok (.bipush 18, 2) := by decide +kernel
theorem dX4_leastWithNeeds_7 : decode cX4_leastWithNeeds 7 = .ok (.if_icmp .gt 27, 3) := by decide +kernel
theorem dX4_leastWithNeeds_10 : decode cX4_leastWithNeeds 10 = .ok (.aload_n 0, 1) := by decide +kernel
theorem dX4_leastWithNeeds_11 : decode cX4_leastWithNeeds 11 = .ok (.iload_n 2, 1) := by decide +kernel
theorem dX4_leastWithNeeds_12 : decode cX4_leastWithNeeds 12 = .ok (.invokevirtual 52, 3) := by decide +kernel
theorem dX4_leastWithNeeds_15 : decode cX4_leastWithNeeds 15 = .ok (.istore 4, 2) := by decide +kernel
theorem dX4_leastWithNeeds_17 : decode cX4_leastWithNeeds 17 = .ok (.iload 4, 2) := by decide +kernel
theorem dX4_leastWithNeeds_19 : decode cX4_leastWithNeeds 19 = .ok (.iload_n 2, 1) := by decide +kernel
theorem dX4_leastWithNeeds_20 : decode cX4_leastWithNeeds 20 = .ok (.if_icmp .ne 5, 3) := by decide +kernel
theorem dX4_leastWithNeeds_23 : decode cX4_leastWithNeeds 23 = .ok (.iload_n 2, 1) := by decide +kernel
theorem dX4_leastWithNeeds_24 : decode cX4_leastWithNeeds 24 = .ok (.ireturn, 1) := by decide +kernel
theorem dX4_leastWithNeeds_25 : decode cX4_leastWithNeeds 25 = .ok (.iload 4, 2) := by decide +kernel
theorem dX4_leastWithNeeds_27 : decode cX4_leastWithNeeds 27 = .ok (.istore_n 2, 1) := by decide +kernel
theorem dX4_leastWithNeeds_28 : decode cX4_leastWithNeeds 28 = .ok (.iinc 3 1, 3) := by decide +kernel
theorem dX4_leastWithNeeds_31 : decode cX4_leastWithNeeds 31 = .ok (.goto (-27), 3) := by decide +kernel
theorem dX4_leastWithNeeds_34 : decode cX4_leastWithNeeds 34 = .ok (.iload_n 2, 1) := by decide +kernel
theorem dX4_leastWithNeeds_35 : decode cX4_leastWithNeeds 35 = .ok (.ireturn, 1) := by decide +kernel
theorem dX4_raisedByNeeds_0 : decode cX4_raisedByNeeds 0 = .ok (.iload_n 1, 1) := by decide +kernel
theorem dX4_raisedByNeeds_1 : decode cX4_raisedByNeeds 1 = .ok (.istore_n 2, 1) := by decide +kernel
theorem dX4_raisedByNeeds_2 : decode cX4_raisedByNeeds 2 = .ok (.iconst 0, 1) := by decide +kernel
theorem dX4_raisedByNeeds_3 : decode cX4_raisedByNeeds 3 = .ok (.istore_n 3, 1) := by decide +kernel
theorem dX4_raisedByNeeds_4 : decode cX4_raisedByNeeds 4 = .ok (.iload_n 3, 1) := by decide +kernel
theorem dX4_raisedByNeeds_5 : decode cX4_raisedByNeeds 5 = .ok (.aload_n 0, 1) := by decide +kernel
theorem dX4_raisedByNeeds_6 : decode cX4_raisedByNeeds 6 = .ok (.getfield 22, 3) := by decide +kernel
theorem dX4_raisedByNeeds_9 : decode cX4_raisedByNeeds 9 = .ok (.if_icmp .ge 44, 3) := by decide +kernel
theorem dX4_raisedByNeeds_12 : decode cX4_raisedByNeeds 12 = .ok (.aload_n 0, 1) := by decide +kernel
theorem dX4_raisedByNeeds_13 : decode cX4_raisedByNeeds 13 = .ok (.iload_n 3, 1) := by decide +kernel
theorem dX4_raisedByNeeds_14 : decode cX4_raisedByNeeds 14 = .ok (.iconst 0, 1) := by decide +kernel
theorem dX4_raisedByNeeds_15 : decode cX4_raisedByNeeds 15 = .ok (.invokevirtual 56, 3) := by decide +kernel
theorem dX4_raisedByNeeds_18 : decode cX4_raisedByNeeds 18 = .ok (.ifCond .ne 29, 3) := by decide +kernel
theorem dX4_raisedByNeeds_21 : decode cX4_raisedByNeeds 21 = .ok (.aload_n 0, 1) := by decide +kernel
theorem dX4_raisedByNeeds_22 : decode cX4_raisedByNeeds 22 = .ok (.iload_n 3, 1) := by decide +kernel
theorem dX4_raisedByNeeds_23 : decode cX4_raisedByNeeds 23 = .ok (.iload_n 2, 1) := by decide +kernel
theorem dX4_raisedByNeeds_24 : decode cX4_raisedByNeeds 24 = .ok (.invokevirtual 43, 3) := by decide +kernel
theorem dX4_raisedByNeeds_27 : decode cX4_raisedByNeeds 27 = .ok (.ifCond .eq 20, 3) := by decide +kernel
theorem dX4_raisedByNeeds_30 : decode cX4_raisedByNeeds 30 = .ok (.iload_n 2, 1) := by decide +kernel
theorem dX4_raisedByNeeds_31 : decode cX4_raisedByNeeds 31 = .ok (.aload_n 0, 1) := by decide +kernel
theorem dX4_raisedByNeeds_32 : decode cX4_raisedByNeeds 32 = .ok (.iload_n 3, 1) := by decide +kernel
theorem dX4_raisedByNeeds_33 : decode cX4_raisedByNeeds 33 = .ok (.iconst 3, 1) := by decide +kernel
theorem dX4_raisedByNeeds_34 : decode cX4_raisedByNeeds 34 = .ok (.invokevirtual 56, 3) := by decide +kernel
theorem dX4_raisedByNeeds_37 : decode cX4_raisedByNeeds 37 = .ok (.aload_n 0, 1) := by decide +kernel
theorem dX4_raisedByNeeds_38 : decode cX4_raisedByNeeds 38 = .ok (.iload_n 3, 1) := by decide +kernel
theorem dX4_raisedByNeeds_39 : decode cX4_raisedByNeeds 39 = .ok (.iconst 4, 1) := by decide +kernel
theorem dX4_raisedByNeeds_40 : decode cX4_raisedByNeeds 40 = .ok (.invokevirtual 56, 3) := by decide +kernel
theorem dX4_raisedByNeeds_43 : decode cX4_raisedByNeeds 43 = .ok (.invokestatic 59, 3) := by decide +kernel
theorem dX4_raisedByNeeds_46 : decode cX4_raisedByNeeds 46 = .ok (.istore_n 2, 1) := by decide +kernel
theorem dX4_raisedByNeeds_47 : decode cX4_raisedByNeeds 47 = .ok (.iinc 3 1, 3) := by decide +kernel
theorem dX4_raisedByNeeds_50 : decode cX4_raisedByNeeds 50 = .ok (.goto (-46), 3) := by decide +kernel
theorem dX4_raisedByNeeds_53 : decode cX4_raisedByNeeds 53 = .ok (.iload_n 2, 1) := by decide +kernel
theorem dX4_raisedByNeeds_54 : decode cX4_raisedByNeeds 54 = .ok (.ireturn, 1) := by decide +kernel
theorem dX4_allow_0 : decode cX4_allow 0 = .ok (.iconst 0, 1) := by decide +kernel
theorem dX4_allow_1 : decode cX4_allow 1 = .ok (.istore_n 3, 1) := by decide +kernel
theorem dX4_allow_2 : decode cX4_allow 2 = .ok (.iload_n 3, 1) := by decide +kernel
theorem dX4_allow_3 : decode cX4_allow 3 = .ok (.aload_n 0, 1) := by decide +kernel
theorem dX4_allow_4 : decode cX4_allow 4 = .ok (.getfield 18, 3) := by decide +kernel
theorem dX4_allow_7 : decode cX4_allow 7 = .ok (.if_icmp .ge 29, 3) := by decide +kernel
theorem dX4_allow_10 : decode cX4_allow 10 = .ok (.aload_n 0, 1) := by decide +kernel
theorem dX4_allow_11 : decode cX4_allow 11 = .ok (.getfield 15, 3) := by decide +kernel
theorem dX4_allow_14 : decode cX4_allow 14 = .ok (.iload_n 3, 1) := by decide +kernel
theorem dX4_allow_15 : decode cX4_allow 15 = .ok (.iaload, 1) := by decide +kernel
theorem dX4_allow_16 : decode cX4_allow 16 = .ok (.ifCond .ne 14, 3) := by decide +kernel
theorem dX4_allow_19 : decode cX4_allow 19 = .ok (.iload_n 3, 1) := by decide +kernel
theorem dX4_allow_20 : decode cX4_allow 20 = .ok (.iload_n 1, 1) := by decide +kernel
theorem dX4_allow_21 : decode cX4_allow 21 = .ok (.invokestatic 47, 3) := by decide +kernel
theorem dX4_allow_24 : decode cX4_allow 24 = .ok (.iload_n 2, 1) := by decide +kernel
theorem dX4_allow_25 : decode cX4_allow 25 = .ok (.if_icmp .lt 5, 3) := by decide +kernel
theorem dX4_allow_28 : decode cX4_allow 28 = .ok (.iconst 1, 1) := by decide +kernel
theorem dX4_allow_29 : decode cX4_allow 29 = .ok (.ireturn, 1) := by decide +kernel
theorem dX4_allow_30 : decode cX4_allow 30 = .ok (.iinc 3 1, 3) := by decide +kernel
theorem dX4_allow_33 : decode cX4_allow 33 = .ok (.goto (-31), 3) := by decide +kernel
theorem dX4_allow_36 : decode cX4_allow 36 = .ok (.iconst 0, 1) := by decide +kernel
theorem dX4_allow_37 : decode cX4_allow 37 = .ok (.ireturn, 1) := by decide +kernel
theorem dX5_init_0 : decode cX5_init 0 = .ok (.aload_n 0, 1) := by decide +kernel
theorem dX5_init_1 : decode cX5_init 1 = .ok (.invokespecial 3, 3) := by decide +kernel
theorem dX5_init_4 : decode cX5_init 4 = .ok (.aload_n 0, 1) := by decide +kernel
theorem dX5_init_5 : decode cX5_init 5 = .ok (.iconst 5, 1) := by decide +kernel
theorem dX5_init_6 : decode cX5_init 6 = .ok (.newarray .int, 2) := by decide +kernel
theorem dX5_init_8 : decode cX5_init 8 = .ok (.putfield 9, 3) := by decide +kernel
theorem dX5_init_11 : decode cX5_init 11 = .ok (.aload_n 0, 1) := by decide +kernel
theorem dX5_init_12 : decode cX5_init 12 = .ok (.iconst 5, 1) := by decide +kernel
theorem dX5_init_13 : decode cX5_init 13 = .ok (.newarray .int, 2) := by decide +kernel
theorem dX5_init_15 : decode cX5_init 15 = .ok (.putfield 15, 3) := by decide +kernel
theorem dX5_init_18 : decode cX5_init 18 = .ok (.aload_n 0, 1) := by decide +kernel
theorem dX5_init_19 : decode cX5_init 19 = .ok (.iconst 5, 1) := by decide +kernel
theorem dX5_init_20 : decode cX5_init 20 = .ok (.newarray .int, 2) := by decide +kernel
theorem dX5_init_22 : decode cX5_init 22 = .ok (.putfield 18, 3) := by decide +kernel
theorem dX5_init_25 : decode cX5_init 25 = .ok (.aload_n 0, 1) := by decide +kernel
theorem dX5_init_26 : decode cX5_init 26 = .ok (.iconst 5, 1) := by decide +kernel
theorem dX5_init_27 : decode cX5_init 27 = .ok (.newarray .int, 2) := by decide +kernel
theorem dX5_init_29 : decode cX5_init 29 = .ok (.putfield 21, 3) := by decide +kernel
theorem dX5_init_32 : decode cX5_init 32 = .ok (.aload_n 0, 1) := by decide +kernel
theorem dX5_init_33 : decode cX5_init 33 = .ok (.iconst 5, 1) := by decide +kernel
theorem dX5_init_34 : decode cX5_init 34 = .ok (.newarray .int, 2) := by decide +kernel
theorem dX5_init_36 : decode cX5_init 36 = .ok (.putfield 24, 3) := by decide +kernel
theorem dX5_init_39 : decode cX5_init 39 = .ok (.aload_n 0, 1) := by decide +kernel
theorem dX5_init_40 : decode cX5_init 40 = .ok (.bipush 6, 2) := by decide +kernel
theorem dX5_init_42 : decode cX5_init 42 = .ok (.newarray .int, 2) := by decide +kernel
theorem dX5_init_44 : decode cX5_init 44 = .ok (.putfield 27, 3) := by decide +kernel
theorem dX5_init_47 : decode cX5_init 47 = .ok (.aload_n 0, 1) := by decide +kernel
theorem dX5_init_48 : decode cX5_init 48 = .ok (.bipush 24, 2) := by decide +kernel
theorem dX5_init_50 : decode cX5_init 50 = .ok (.newarray .int, 2) := by decide +kernel
theorem dX5_init_52 : decode cX5_init 52 = .ok (.putfield 30, 3) := by decide +kernel
theorem dX5_init_55 : decode cX5_init 55 = .ok (.aload_n 0, 1) := by decide +kernel
theorem dX5_init_56 : decode cX5_init 56 = .ok (.aload_n 1, 1) := by decide +kernel
theorem dX5_init_57 : decode cX5_init 57 = .ok (.putfield 33, 3) := by decide +kernel
theorem dX5_init_60 : decode cX5_init 60 = .ok (.return_, 1) := by decide +kernel
theorem dX5_copy_0 : decode cX5_copy 0 = .ok (.aload_n 1, 1) := by decide +kernel
theorem dX5_copy_1 : decode cX5_copy 1 = .ok (.getfield 9, 3) := by decide +kernel
theorem dX5_copy_4 : decode cX5_copy 4 = .ok (.iconst 0, 1) := by decide +kernel
theorem dX5_copy_5 : decode cX5_copy 5 = .ok (.aload_n 0, 1) := by decide +kernel
theorem dX5_copy_6 : decode cX5_copy 6 = .ok (.getfield 9, 3) := by decide +kernel
theorem dX5_copy_9 : decode cX5_copy 9 = .ok (.iconst 0, 1) := by decide +kernel
theorem dX5_copy_10 : decode cX5_copy 10 = .ok (.iconst 5, 1) := by decide +kernel
theorem dX5_copy_11 : decode cX5_copy 11 = .ok (.invokestatic 37, 3) := by decide +kernel
theorem dX5_copy_14 : decode cX5_copy 14 = .ok (.aload_n 1, 1) := by decide +kernel
theorem dX5_copy_15 : decode cX5_copy 15 = .ok (.getfield 15, 3) := by decide +kernel
theorem dX5_copy_18 : decode cX5_copy 18 = .ok (.iconst 0, 1) := by decide +kernel
theorem dX5_copy_19 : decode cX5_copy 19 = .ok (.aload_n 0, 1) := by decide +kernel
theorem dX5_copy_20 : decode cX5_copy 20 = .ok (.getfield 15, 3) := by decide +kernel
theorem dX5_copy_23 : decode cX5_copy 23 = .ok (.iconst 0, 1) := by decide +kernel
theorem dX5_copy_24 : decode cX5_copy 24 = .ok (.iconst 5, 1) := by decide +kernel
theorem dX5_copy_25 : decode cX5_copy 25 = .ok (.invokestatic 37, 3) := by decide +kernel
theorem dX5_copy_28 : decode cX5_copy 28 = .ok (.aload_n 1, 1) := by decide +kernel
theorem dX5_copy_29 : decode cX5_copy 29 = .ok (.getfield 18, 3) := by decide +kernel
theorem dX5_copy_32 : decode cX5_copy 32 = .ok (.iconst 0, 1) := by decide +kernel
theorem dX5_copy_33 : decode cX5_copy 33 = .ok (.aload_n 0, 1) := by decide +kernel
theorem dX5_copy_34 : decode cX5_copy 34 = .ok (.getfield 18, 3) := by decide +kernel
theorem dX5_copy_37 : decode cX5_copy 37 = .ok (.iconst 0, 1) := by decide +kernel
theorem dX5_copy_38 : decode cX5_copy 38 = .ok (.iconst 5, 1) := by decide +kernel
theorem dX5_copy_39 : decode cX5_copy 39 = .ok (.invokestatic 37, 3) := by decide +kernel
theorem dX5_copy_42 : decode cX5_copy 42 = .ok (.aload_n 1, 1) := by decide +kernel
theorem dX5_copy_43 : decode cX5_copy 43 = .ok (.getfield 21, 3) := by decide +kernel
theorem dX5_copy_46 : decode cX5_copy 46 = .ok (.iconst 0, 1) := by decide +kernel
theorem dX5_copy_47 : decode cX5_copy 47 = .ok (.aload_n 0, 1) := by decide +kernel
theorem dX5_copy_48 : decode cX5_copy 48 = .ok (.getfield 21, 3) := by decide +kernel
theorem dX5_copy_51 : decode cX5_copy 51 = .ok (.iconst 0, 1) := by decide +kernel
theorem dX5_copy_52 : decode cX5_copy 52 = .ok (.iconst 5, 1) := by decide +kernel
theorem dX5_copy_53 : decode cX5_copy 53 = .ok (.invokestatic 37, 3) := by decide +kernel
theorem dX5_copy_56 : decode cX5_copy 56 = .ok (.aload_n 1, 1) := by decide +kernel
theorem dX5_copy_57 : decode cX5_copy 57 = .ok (.getfield 24, 3) := by decide +kernel
theorem dX5_copy_60 : decode cX5_copy 60 = .ok (.iconst 0, 1) := by decide +kernel
theorem dX5_copy_61 : decode cX5_copy 61 = .ok (.aload_n 0, 1) := by decide +kernel
theorem dX5_copy_62 : decode cX5_copy 62 = .ok (.getfield 24, 3) := by decide +kernel
theorem dX5_copy_65 : decode cX5_copy 65 = .ok (.iconst 0, 1) := by decide +kernel
theorem dX5_copy_66 : decode cX5_copy 66 = .ok (.iconst 5, 1) := by decide +kernel
theorem dX5_copy_67 : decode cX5_copy 67 = .ok (.invokestatic 37, 3) := by decide +kernel
theorem dX5_copy_70 : decode cX5_copy 70 = .ok (.aload_n 1, 1) := by decide +kernel
theorem dX5_copy_71 : decode cX5_copy 71 = .ok (.getfield 27, 3) := by decide +kernel
theorem dX5_copy_74 : decode cX5_copy 74 = .ok (.iconst 0, 1) := by decide +kernel
theorem dX5_copy_75 : decode cX5_copy 75 = .ok (.aload_n 0, 1) := by decide +kernel
theorem dX5_copy_76 : decode cX5_copy 76 = .ok (.getfield 27, 3) := by decide +kernel
theorem dX5_copy_79 : decode cX5_copy 79 = .ok (.iconst 0, 1) := by decide +kernel
theorem dX5_copy_80 : decode cX5_copy 80 = .ok (.bipush 6, 2) := by decide +kernel
theorem dX5_copy_82 : decode cX5_copy 82 = .ok (.invokestatic 37, 3) := by decide +kernel
theorem dX5_copy_85 : decode cX5_copy 85 = .ok (.aload_n 1, 1) := by decide +kernel
theorem dX5_copy_86 : decode cX5_copy 86 = .ok (.getfield 30, 3) := by decide +kernel
theorem dX5_copy_89 : decode cX5_copy 89 = .ok (.iconst 0, 1) := by decide +kernel
theorem dX5_copy_90 : decode cX5_copy 90 = .ok (.aload_n 0, 1) := by decide +kernel
theorem dX5_copy_91 : decode cX5_copy 91 = .ok (.getfield 30, 3) := by decide +kernel
theorem dX5_copy_94 : decode cX5_copy 94 = .ok (.iconst 0, 1) := by decide +kernel
theorem dX5_copy_95 : decode cX5_copy 95 = .ok (.bipush 24, 2) := by decide +kernel
theorem dX5_copy_97 : decode cX5_copy 97 = .ok (.invokestatic 37, 3) := by decide +kernel
theorem dX5_copy_100 : decode cX5_copy 100 = .ok (.aload_n 0, 1) := by decide +kernel
theorem dX5_copy_101 : decode cX5_copy 101 = .ok (.aload_n 1, 1) := by decide +kernel
theorem dX5_copy_102 : decode cX5_copy 102 = .ok (.getfield 43, 3) := by decide +kernel
theorem dX5_copy_105 : decode cX5_copy 105 = .ok (.putfield 43, 3) := by decide +kernel
theorem dX5_copy_108 : decode cX5_copy 108 = .ok (.aload_n 0, 1) := by decide +kernel
theorem dX5_copy_109 : decode cX5_copy 109 = .ok (.aload_n 1, 1) := by decide +kernel
theorem dX5_copy_110 : decode cX5_copy 110 = .ok (.getfield 47, 3) := by decide +kernel
theorem dX5_copy_113 : decode cX5_copy 113 = .ok (.putfield 47, 3) := by decide +kernel
theorem dX5_copy_116 : decode cX5_copy 116 = .ok (.return_, 1) := by decide +kernel
theorem dX5_take_0 : decode cX5_take 0 = .ok (.aload_n 1, 1) := by decide +kernel
theorem dX5_take_1 : decode cX5_take 1 = .ok (.getfield 50, 3) := by decide +kernel
theorem dX5_take_4 : decode cX5_take 4 = .ok (.iconst 0, 1) := by decide +kernel
theorem dX5_take_5 : decode cX5_take 5 = .ok (.aload_n 0, 1) := by decide +kernel
theorem dX5_take_6 : decode cX5_take 6 = .ok (.getfield 9, 3) := by decide +kernel
theorem dX5_take_9 : decode cX5_take 9 = .ok (.iconst 0, 1) := by decide +kernel
theorem dX5_take_10 : decode cX5_take 10 = .ok (.iconst 5, 1) := by decide +kernel
theorem dX5_take_11 : decode cX5_take 11 = .ok (.invokestatic 37, 3) := by decide +kernel
theorem dX5_take_14 : decode cX5_take 14 = .ok (.aload_n 1, 1) := by decide +kernel
theorem dX5_take_15 : decode cX5_take 15 = .ok (.getfield 53, 3) := by decide +kernel
theorem dX5_take_18 : decode cX5_take 18 = .ok (.iconst 0, 1) := by decide +kernel
theorem dX5_take_19 : decode cX5_take 19 = .ok (.aload_n 0, 1) := by decide +kernel
theorem dX5_take_20 : decode cX5_take 20 = .ok (.getfield 15, 3) := by decide +kernel
theorem dX5_take_23 : decode cX5_take 23 = .ok (.iconst 0, 1) := by decide +kernel
theorem dX5_take_24 : decode cX5_take 24 = .ok (.iconst 5, 1) := by decide +kernel
theorem dX5_take_25 : decode cX5_take 25 = .ok (.invokestatic 37, 3) := by decide +kernel
theorem dX5_take_28 : decode cX5_take 28 = .ok (.aload_n 1, 1) := by decide +kernel
theorem dX5_take_29 : decode cX5_take 29 = .ok (.getfield 54, 3) := by decide +kernel
theorem dX5_take_32 : decode cX5_take 32 = .ok (.iconst 0, 1) := by decide +kernel
theorem dX5_take_33 : decode cX5_take 33 = .ok (.aload_n 0, 1) := by decide +kernel
theorem dX5_take_34 : decode cX5_take 34 = .ok (.getfield 27, 3) := by decide +kernel
theorem dX5_take_37 : decode cX5_take 37 = .ok (.iconst 0, 1) := by decide +kernel
theorem dX5_take_38 : decode cX5_take 38 = .ok (.bipush 6, 2) := by decide +kernel
theorem dX5_take_40 : decode cX5_take 40 = .ok (.invokestatic 37, 3) := by decide +kernel
theorem dX5_take_43 : decode cX5_take 43 = .ok (.aload_n 0, 1) := by decide +kernel
theorem dX5_take_44 : decode cX5_take 44 = .ok (.getfield 18, 3) := by decide +kernel
theorem dX5_take_47 : decode cX5_take 47 = .ok (.iconst 0, 1) := by decide +kernel
theorem dX5_take_48 : decode cX5_take 48 = .ok (.invokestatic 55, 3) := by decide +kernel
theorem dX5_take_51 : decode cX5_take 51 = .ok (.aload_n 0, 1) := by decide +kernel
theorem dX5_take_52 : decode cX5_take 52 = .ok (.getfield 21, 3) := by decide +kernel
theorem dX5_take_55 : decode cX5_take 55 = .ok (.iconst 0, 1) := by decide +kernel
theorem dX5_take_56 : decode cX5_take 56 = .ok (.invokestatic 55, 3) := by decide +kernel
theorem dX5_take_59 : decode cX5_take 59 = .ok (.aload_n 0, 1) := by decide +kernel
theorem dX5_take_60 : decode cX5_take 60 = .ok (.getfield 24, 3) := by decide +kernel
theorem dX5_take_63 : decode cX5_take 63 = .ok (.iconst 0, 1) := by decide +kernel
theorem dX5_take_64 : decode cX5_take 64 = .ok (.invokestatic 55, 3) := by decide +kernel
theorem dX5_take_67 : decode cX5_take 67 = .ok (.aload_n 0, 1) := by decide +kernel
theorem dX5_take_68 : decode cX5_take 68 = .ok (.getfield 30, 3) := by decide +kernel
theorem dX5_take_71 : decode cX5_take 71 = .ok (.iconst 0, 1) := by decide +kernel
theorem dX5_take_72 : decode cX5_take 72 = .ok (.invokestatic 55, 3) := by decide +kernel
theorem dX5_take_75 : decode cX5_take 75 = .ok (.aload_n 0, 1) := by decide +kernel
theorem dX5_take_76 : decode cX5_take 76 = .ok (.iconst 0, 1) := by decide +kernel
theorem dX5_take_77 : decode cX5_take 77 = .ok (.putfield 43, 3) := by decide +kernel
theorem dX5_take_80 : decode cX5_take 80 = .ok (.aload_n 0, 1) := by decide +kernel
theorem dX5_take_81 : decode cX5_take 81 = .ok (.iconst 0, 1) := by decide +kernel
theorem dX5_take_82 : decode cX5_take 82 = .ok (.putfield 47, 3) := by decide +kernel
theorem dX5_take_85 : decode cX5_take 85 = .ok (.return_, 1) := by decide +kernel
theorem dX5_isQuarantined_0 : decode cX5_isQuarantined 0 = .ok (.aload_n 0, 1) := by decide +kernel
theorem dX5_isQuarantined_1 : decode cX5_isQuarantined 1 = .ok (.getfield 24, 3) := by decide +kernel
theorem dX5_isQuarantined_4 : decode cX5_isQuarantined 4 = .ok (.iload_n 1, 1) := by decide +kernel
theorem dX5_isQuarantined_5 : decode cX5_isQuarantined 5 = .ok (.iaload, 1) := by decide +kernel
theorem dX5_isQuarantined_6 : decode cX5_isQuarantined 6 = .ok (.aload_n 0, 1) := by decide +kernel
theorem dX5_isQuarantined_7 : decode cX5_isQuarantined 7 = .ok (.getfield 43, 3) := by decide +kernel
theorem dX5_isQuarantined_10 : decode cX5_isQuarantined 10 = .ok (.if_icmp .le 7, 3) := by decide +kernel
theorem dX5_isQuarantined_13 : decode cX5_isQuarantined 13 = .ok (.iconst 1, 1) := by decide +kernel
theorem dX5_isQuarantined_14 : decode cX5_isQuarantined 14 = .ok (.goto 4, 3) := by decide +kernel
theorem dX5_isQuarantined_17 : decode cX5_isQuarantined 17 = .ok (.iconst 0, 1) := by decide +kernel
theorem dX5_isQuarantined_18 : decode cX5_isQuarantined 18 = .ok (.ireturn, 1) := by decide +kernel
theorem dX5_isDrifted_0 : decode cX5_isDrifted 0 = .ok (.aload_n 0, 1) := by decide +kernel
theorem dX5_isDrifted_1 : decode cX5_isDrifted 1 = .ok (.getfield 9, 3) := by decide +kernel
theorem dX5_isDrifted_4 : decode cX5_isDrifted 4 = .ok (.iload_n 1, 1) := by decide +kernel
theorem dX5_isDrifted_5 : decode cX5_isDrifted 5 = .ok (.iaload, 1) := by decide +kernel
theorem dX5_isDrifted_6 : decode cX5_isDrifted 6 = .ok (.aload_n 0, 1) := by decide +kernel
theorem dX5_isDrifted_7 : decode cX5_isDrifted 7 = .ok (.getfield 15, 3) := by decide +kernel
theorem dX5_isDrifted_10 : decode cX5_isDrifted 10 = .ok (.iload_n 1, 1) := by decide +kernel
theorem dX5_isDrifted_11 : decode cX5_isDrifted 11 = .ok (.iaload, 1) := by decide +kernel
theorem dX5_isDrifted_12 : decode cX5_isDrifted 12 = .ok (.ixor, 1) := by decide +kernel
theorem dX5_isDrifted_13 : decode cX5_isDrifted 13 = .ok (.iconst 2, 1) := by decide +kernel
theorem dX5_isDrifted_14 : decode cX5_isDrifted 14 = .ok (.iload_n 2, 1) := by decide +kernel
theorem dX5_isDrifted_15 : decode cX5_isDrifted 15 = .ok (.imul, 1) := by decide +kernel
theorem dX5_isDrifted_16 : decode cX5_isDrifted 16 = .ok (.ishr, 1) := by decide +kernel
theorem dX5_isDrifted_17 : decode cX5_isDrifted 17 = .ok (.iconst 3, 1) := by decide +kernel
theorem dX5_isDrifted_18 : decode cX5_isDrifted 18 = .ok (.iand, 1) := by decide +kernel
theorem dX5_isDrifted_19 : decode cX5_isDrifted 19 = .ok (.ifCond .eq 7, 3) := by decide +kernel
theorem dX5_isDrifted_22 : decode cX5_isDrifted 22 = .ok (.iconst 1, 1) := by decide +kernel
theorem dX5_isDrifted_23 : decode cX5_isDrifted 23 = .ok (.goto 4, 3) := by decide +kernel
theorem dX5_isDrifted_26 : decode cX5_isDrifted 26 = .ok (.iconst 0, 1) := by decide +kernel
theorem dX5_isDrifted_27 : decode cX5_isDrifted 27 = .ok (.ireturn, 1) := by decide +kernel
theorem dX5_driftedOn_0 : decode cX5_driftedOn 0 = .ok (.iconst 0, 1) := by decide +kernel
theorem dX5_driftedOn_1 : decode cX5_driftedOn 1 = .ok (.istore_n 2, 1) := by decide +kernel
theorem dX5_driftedOn_2 : decode cX5_driftedOn 2 = .ok (.iconst 0, 1) := by decide +kernel
theorem dX5_driftedOn_3 : decode cX5_driftedOn 3 = .ok (.istore_n 3, 1) := by decide +kernel
theorem dX5_driftedOn_4 : decode cX5_driftedOn 4 = .ok (.iload_n 3, 1) := by decide +kernel
theorem dX5_driftedOn_5 : decode cX5_driftedOn 5 = .ok (.aload_n 0, 1) := by decide +kernel
theorem dX5_driftedOn_6 : decode cX5_driftedOn 6 = .ok (.getfield 33, 3) := by decide +kernel
theorem dX5_driftedOn_9 : decode cX5_driftedOn 9 = .ok (.getfield 61, 3) := by decide +kernel
theorem dX5_driftedOn_12 : decode cX5_driftedOn 12 = .ok (.if_icmp .ge 24, 3) := by decide +kernel
theorem dX5_driftedOn_15 : decode cX5_driftedOn 15 = .ok (.aload_n 0, 1) := by decide +kernel
theorem dX5_driftedOn_16 : decode cX5_driftedOn 16 = .ok (.iload_n 1, 1) := by decide +kernel
theorem dX5_driftedOn_17 : decode cX5_driftedOn 17 = .ok (.iload_n 3, 1) := by decide +kernel
theorem dX5_driftedOn_18 : decode cX5_driftedOn 18 = .ok (.invokevirtual 66, 3) := by decide +kernel
theorem dX5_driftedOn_21 : decode cX5_driftedOn 21 = .ok (.ifCond .eq 9, 3) := by decide +kernel
theorem dX5_driftedOn_24 : decode cX5_driftedOn 24 = .ok (.iload_n 2, 1) := by decide +kernel
theorem dX5_driftedOn_25 : decode cX5_driftedOn 25 = .ok (.iconst 1, 1) := by decide +kernel
theorem dX5_driftedOn_26 : decode cX5_driftedOn 26 = .ok (.iload_n 3, 1) := by decide +kernel
theorem dX5_driftedOn_27 : decode cX5_driftedOn 27 = .ok (.ishl, 1) := by decide +kernel
theorem dX5_driftedOn_28 : decode cX5_driftedOn 28 = .ok (.ior, 1) := by decide +kernel
theorem dX5_driftedOn_29 : decode cX5_driftedOn 29 = .ok (.istore_n 2, 1) := by decide +kernel
theorem dX5_driftedOn_30 : decode cX5_driftedOn 30 = .ok (.iinc 3 1, 3) := by decide +kernel
theorem dX5_driftedOn_33 : decode cX5_driftedOn 33 = .ok (.goto (-29), 3) := by decide +kernel
theorem dX5_driftedOn_36 : decode cX5_driftedOn 36 = .ok (.iload_n 2, 1) := by decide +kernel
theorem dX5_driftedOn_37 : decode cX5_driftedOn 37 = .ok (.ireturn, 1) := by decide +kernel
theorem dX5_driftedNodes_0 : decode cX5_driftedNodes 0 = .ok (.iconst 0, 1) := by decide +kernel
theorem dX5_driftedNodes_1 : decode cX5_driftedNodes 1 = .ok (.istore_n 1, 1) := by decide +kernel
theorem dX5_driftedNodes_2 : decode cX5_driftedNodes 2 = .ok (.iconst 0, 1) := by decide +kernel
theorem dX5_driftedNodes_3 : decode cX5_driftedNodes 3 = .ok (.istore_n 2, 1) := by decide +kernel
theorem dX5_driftedNodes_4 : decode cX5_driftedNodes 4 = .ok (.iload_n 2, 1) := by decide +kernel
theorem dX5_driftedNodes_5 : decode cX5_driftedNodes 5 = .ok (.aload_n 0, 1) := by decide +kernel
theorem dX5_driftedNodes_6 : decode cX5_driftedNodes 6 = .ok (.getfield 33, 3) := by decide +kernel
theorem dX5_driftedNodes_9 : decode cX5_driftedNodes 9 = .ok (.getfield 70, 3) := by decide +kernel
theorem dX5_driftedNodes_12 : decode cX5_driftedNodes 12 = .ok (.if_icmp .ge 30, 3) := by decide +kernel
theorem dX5_driftedNodes_15 : decode cX5_driftedNodes 15 = .ok (.aload_n 0, 1) := by decide +kernel
theorem dX5_driftedNodes_16 : decode cX5_driftedNodes 16 = .ok (.getfield 9, 3) := by decide +kernel
theorem dX5_driftedNodes_19 : decode cX5_driftedNodes 19 = .ok (.iload_n 2, 1) := by decide +kernel
theorem dX5_driftedNodes_20 : decode cX5_driftedNodes 20 = .ok (.iaload, 1) := by decide +kernel
theorem dX5_driftedNodes_21 : decode cX5_driftedNodes 21 = .ok (.aload_n 0, 1) := by decide +kernel
theorem dX5_driftedNodes_22 : decode cX5_driftedNodes 22 = .ok (.getfield 15, 3) := by decide +kernel
theorem dX5_driftedNodes_25 : decode cX5_driftedNodes 25 = .ok (.iload_n 2, 1) := by decide +kernel
theorem dX5_driftedNodes_26 : decode cX5_driftedNodes 26 = .ok (.iaload, 1) := by decide +kernel
theorem dX5_driftedNodes_27 : decode cX5_driftedNodes 27 = .ok (.if_icmp .eq 9, 3) := by decide +kernel
theorem dX5_driftedNodes_30 : decode cX5_driftedNodes 30 = .ok (.iload_n 1, 1) := by decide +kernel
theorem dX5_driftedNodes_31 : decode cX5_driftedNodes 31 = .ok (.iconst 1, 1) := by decide +kernel
theorem dX5_driftedNodes_32 : decode cX5_driftedNodes 32 = .ok (.iload_n 2, 1) := by decide +kernel
theorem dX5_driftedNodes_33 : decode cX5_driftedNodes 33 = .ok (.ishl, 1) := by decide +kernel
theorem dX5_driftedNodes_34 : decode cX5_driftedNodes 34 = .ok (.ior, 1) := by decide +kernel
theorem dX5_driftedNodes_35 : decode cX5_driftedNodes 35 = .ok (.istore_n 1, 1) := by decide +kernel
theorem dX5_driftedNodes_36 : decode cX5_driftedNodes 36 = .ok (.iinc 2 1, 3) := by decide +kernel
theorem dX5_driftedNodes_39 : decode cX5_driftedNodes 39 = .ok (.goto (-35), 3) := by decide +kernel
theorem dX5_driftedNodes_42 : decode cX5_driftedNodes 42 = .ok (.iload_n 1, 1) := by decide +kernel
theorem dX5_driftedNodes_43 : decode cX5_driftedNodes 43 = .ok (.ireturn, 1) := by decide +kernel
theorem dX5_calmNodes_0 : decode cX5_calmNodes 0 = .ok (.iconst 1, 1) := by decide +kernel
theorem dX5_calmNodes_1 : decode cX5_calmNodes 1 = .ok (.aload_n 0, 1) := by decide +kernel
theorem dX5_calmNodes_2 : decode cX5_calmNodes 2 = .ok (.getfield 33, 3) := by decide +kernel
theorem dX5_calmNodes_5 : decode cX5_calmNodes 5 = .ok (.getfield 70, 3) := by decide +kernel
theorem dX5_calmNodes_8 : decode cX5_calmNodes 8 = .ok (.ishl, 1) := by decide +kernel
theorem dX5_calmNodes_9 : decode cX5_calmNodes 9 = .ok (.iconst 1, 1) := by decide +kernel
theorem dX5_calmNodes_10 : decode cX5_calmNodes 10 = .ok (.isub, 1) := by decide +kernel
theorem dX5_calmNodes_11 : decode cX5_calmNodes 11 = .ok (.aload_n 0, 1) := by decide +kernel
theorem dX5_calmNodes_12 : decode cX5_calmNodes 12 = .ok (.invokevirtual 73, 3) := by decide +kernel
theorem dX5_calmNodes_15 : decode cX5_calmNodes 15 = .ok (.iconst (-1), 1) := by decide +kernel
theorem dX5_calmNodes_16 : decode cX5_calmNodes 16 = .ok (.ixor, 1) := by decide +kernel
theorem dX5_calmNodes_17 : decode cX5_calmNodes 17 = .ok (.iand, 1) := by decide +kernel
theorem dX5_calmNodes_18 : decode cX5_calmNodes 18 = .ok (.ireturn, 1) := by decide +kernel
theorem dX5_digestOf_0 : decode cX5_digestOf 0 = .ok (.iconst 0, 1) := by decide +kernel
theorem dX5_digestOf_1 : decode cX5_digestOf 1 = .ok (.istore_n 2, 1) := by decide +kernel
theorem dX5_digestOf_2 : decode cX5_digestOf 2 = .ok (.iconst 0, 1) := by decide +kernel
theorem dX5_digestOf_3 : decode cX5_digestOf 3 = .ok (.istore_n 3, 1) := by decide +kernel
theorem dX5_digestOf_4 : decode cX5_digestOf 4 = .ok (.iload_n 3, 1) := by decide +kernel
theorem dX5_digestOf_5 : decode cX5_digestOf 5 = .ok (.aload_n 0, 1) := by decide +kernel
theorem dX5_digestOf_6 : decode cX5_digestOf 6 = .ok (.getfield 33, 3) := by decide +kernel
theorem dX5_digestOf_9 : decode cX5_digestOf 9 = .ok (.getfield 61, 3) := by decide +kernel
theorem dX5_digestOf_12 : decode cX5_digestOf 12 = .ok (.if_icmp .ge 26, 3) := by decide +kernel
theorem dX5_digestOf_15 : decode cX5_digestOf 15 = .ok (.iload_n 2, 1) := by decide +kernel
theorem dX5_digestOf_16 : decode cX5_digestOf 16 = .ok (.iload_n 3, 1) := by decide +kernel
theorem dX5_digestOf_17 : decode cX5_digestOf 17 = .ok (.iconst 1, 1) := by decide +kernel
theorem dX5_digestOf_18 : decode cX5_digestOf 18 = .ok (.iadd, 1) := by decide +kernel
theorem dX5_digestOf_19 : decode cX5_digestOf 19 = .ok (.aload_n 0, 1) := by decide +kernel
theorem dX5_digestOf_20 : decode cX5_digestOf 20 = .ok (.getfield 9, 3) := by decide +kernel
theorem dX5_digestOf_23 : decode cX5_digestOf 23 = .ok (.iload_n 1, 1) := by decide +kernel
theorem dX5_digestOf_24 : decode cX5_digestOf 24 = .ok (.iaload, 1) := by decide +kernel
theorem dX5_digestOf_25 : decode cX5_digestOf 25 = .ok (.iload_n 3, 1) := by decide +kernel
theorem dX5_digestOf_26 : decode cX5_digestOf 26 = .ok (.invokestatic 77, 3) := by decide +kernel
theorem dX5_digestOf_29 : decode cX5_digestOf 29 = .ok (.imul, 1) := by decide +kernel
theorem dX5_digestOf_30 : decode cX5_digestOf 30 = .ok (.iadd, 1) := by decide +kernel
theorem dX5_digestOf_31 : decode cX5_digestOf 31 = .ok (.istore_n 2, 1) := by decide +kernel
theorem dX5_digestOf_32 : decode cX5_digestOf 32 = .ok (.iinc 3 1, 3) := by decide +kernel
theorem dX5_digestOf_35 : decode cX5_digestOf 35 = .ok (.goto (-31), 3) := by decide +kernel
theorem dX5_digestOf_38 : decode cX5_digestOf 38 = .ok (.iload_n 2, 1) := by decide +kernel
theorem dX5_digestOf_39 : decode cX5_digestOf 39 = .ok (.ireturn, 1) := by decide +kernel
theorem dX5_numberOf_0 : decode cX5_numberOf 0 = .ok (.iload_n 2, 1) := by decide +kernel
theorem dX5_numberOf_1 : decode cX5_numberOf 1 = .ok (.tableswitch 106 0 5 #[39, 49, 56, 63, 83, 89], 39) := by decide +kernel
theorem dX5_numberOf_40 : decode cX5_numberOf 40 = .ok (.aload_n 0, 1) := by decide +kernel
theorem dX5_numberOf_41 : decode cX5_numberOf 41 = .ok (.getfield 33, 3) := by decide +kernel
theorem dX5_numberOf_44 : decode cX5_numberOf 44 = .ok (.getfield 83, 3) := by decide +kernel
theorem dX5_numberOf_47 : decode cX5_numberOf 47 = .ok (.iload_n 1, 1) := by decide +kernel
theorem dX5_numberOf_48 : decode cX5_numberOf 48 = .ok (.iaload, 1) := by decide +kernel
theorem dX5_numberOf_49 : decode cX5_numberOf 49 = .ok (.ireturn, 1) := by decide +kernel
theorem dX5_numberOf_50 : decode cX5_numberOf 50 = .ok (.aload_n 0, 1) := by decide +kernel
theorem dX5_numberOf_51 : decode cX5_numberOf 51 = .ok (.getfield 18, 3) := by decide +kernel
theorem dX5_numberOf_54 : decode cX5_numberOf 54 = .ok (.iload_n 1, 1) := by decide +kernel
theorem dX5_numberOf_55 : decode cX5_numberOf 55 = .ok (.iaload, 1) := by decide +kernel
theorem dX5_numberOf_56 : decode cX5_numberOf 56 = .ok (.ireturn, 1) := by decide +kernel
theorem dX5_numberOf_57 : decode cX5_numberOf 57 = .ok (.aload_n 0, 1) := by decide +kernel
theorem dX5_numberOf_58 : decode cX5_numberOf 58 = .ok (.getfield 21, 3) := by decide +kernel
theorem dX5_numberOf_61 : decode cX5_numberOf 61 = .ok (.iload_n 1, 1) := by decide +kernel
theorem dX5_numberOf_62 : decode cX5_numberOf 62 = .ok (.iaload, 1) := by decide +kernel
theorem dX5_numberOf_63 : decode cX5_numberOf 63 = .ok (.ireturn, 1) := by decide +kernel
theorem dX5_numberOf_64 : decode cX5_numberOf 64 = .ok (.aload_n 0, 1) := by decide +kernel
theorem dX5_numberOf_65 : decode cX5_numberOf 65 = .ok (.iload_n 1, 1) := by decide +kernel
theorem dX5_numberOf_66 : decode cX5_numberOf 66 = .ok (.invokevirtual 86, 3) := by decide +kernel
theorem dX5_numberOf_69 : decode cX5_numberOf 69 = .ok (.ifCond .eq 12, 3) := by decide +kernel
theorem dX5_numberOf_72 : decode cX5_numberOf 72 = .ok (.aload_n 0, 1) := by decide +kernel
theorem dX5_numberOf_73 : decode cX5_numberOf 73 = .ok (.getfield 24, 3) := by decide +kernel
theorem dX5_numberOf_76 : decode cX5_numberOf 76 = .ok (.iload_n 1, 1) := by decide +kernel
theorem dX5_numberOf_77 : decode cX5_numberOf 77 = .ok (.iaload, 1) := by decide +kernel
theorem dX5_numberOf_78 : decode cX5_numberOf 78 = .ok (.goto 5, 3) := by decide +kernel
theorem dX5_numberOf_81 : decode cX5_numberOf 81 = .ok (.bipush (-9), 2) := by decide +kernel
theorem dX5_numberOf_83 : decode cX5_numberOf 83 = .ok (.ireturn, 1) := by decide +kernel
theorem dX5_numberOf_84 : decode cX5_numberOf 84 = .ok (.aload_n 0, 1) := by decide +kernel
theorem dX5_numberOf_85 : decode cX5_numberOf 85 = .ok (.iload_n 1, 1) := by decide +kernel
theorem dX5_numberOf_86 : decode cX5_numberOf 86 = .ok (.invokevirtual 90, 3) := by decide +kernel
theorem dX5_numberOf_89 : decode cX5_numberOf 89 = .ok (.ireturn, 1) := by decide +kernel
theorem dX5_numberOf_90 : decode cX5_numberOf 90 = .ok (.aload_n 0, 1) := by decide +kernel
theorem dX5_numberOf_91 : decode cX5_numberOf 91 = .ok (.getfield 33, 3) := by decide +kernel
theorem dX5_numberOf_94 : decode cX5_numberOf 94 = .ok (.getfield 94, 3) := by decide +kernel
theorem dX5_numberOf_97 : decode cX5_numberOf 97 = .ok (.aload_n 0, 1) := by decide +kernel
theorem dX5_numberOf_98 : decode cX5_numberOf 98 = .ok (.getfield 9, 3) := by decide +kernel
theorem dX5_numberOf_101 : decode cX5_numberOf 101 = .ok (.iload_n 1, 1) := by decide +kernel
theorem dX5_numberOf_102 : decode cX5_numberOf 102 = .ok (.iaload, 1) := by decide +kernel
theorem dX5_numberOf_103 : decode cX5_numberOf 103 = .ok (.invokevirtual 98, 3) := by decide +kernel
theorem dX5_numberOf_106 : decode cX5_numberOf 106 = .ok (.ireturn, 1) := by decide +kernel
theorem dX5_numberOf_107 : decode cX5_numberOf 107 = .ok (.aload_n 0, 1) := by decide +kernel
theorem dX5_numberOf_108 : decode cX5_numberOf 108 = .ok (.iload_n 1, 1) := by decide +kernel
theorem dX5_numberOf_109 : decode cX5_numberOf 109 = .ok (.invokevirtual 103, 3) := by decide +kernel
theorem dX5_numberOf_112 : decode cX5_numberOf 112 = .ok (.ireturn, 1) := by decide +kernel
theorem dX5_stateOf_0 : decode cX5_stateOf 0 = .ok (.aload_n 0, 1) := by decide +kernel
theorem dX5_stateOf_1 : decode cX5_stateOf 1 = .ok (.iload_n 1, 1) := by decide +kernel
theorem dX5_stateOf_2 : decode cX5_stateOf 2 = .ok (.iload_n 2, 1) := by decide +kernel
theorem dX5_stateOf_3 : decode cX5_stateOf 3 = .ok (.invokevirtual 66, 3) := by decide +kernel
theorem dX5_stateOf_6 : decode cX5_stateOf 6 = .ok (.ifCond .ne 5, 3) := by decide +kernel
theorem dX5_stateOf_9 : decode cX5_stateOf 9 = .ok (.iconst 1, 1) := by decide +kernel
theorem dX5_stateOf_10 : decode cX5_stateOf 10 = .ok (.ireturn, 1) := by decide +kernel
theorem dX5_stateOf_11 : decode cX5_stateOf 11 = .ok (.aload_n 0, 1) := by decide +kernel
theorem dX5_stateOf_12 : decode cX5_stateOf 12 = .ok (.iload_n 1, 1) := by decide +kernel
theorem dX5_stateOf_13 : decode cX5_stateOf 13 = .ok (.invokevirtual 86, 3) := by decide +kernel
theorem dX5_stateOf_16 : decode cX5_stateOf 16 = .ok (.ifCond .eq 5, 3) := by decide +kernel
theorem dX5_stateOf_19 : decode cX5_stateOf 19 = .ok (.iconst 2, 1) := by decide +kernel
theorem dX5_stateOf_20 : decode cX5_stateOf 20 = .ok (.ireturn, 1) := by decide +kernel
theorem dX5_stateOf_21 : decode cX5_stateOf 21 = .ok (.aload_n 0, 1) := by decide +kernel
theorem dX5_stateOf_22 : decode cX5_stateOf 22 = .ok (.iload_n 2, 1) := by decide +kernel
theorem dX5_stateOf_23 : decode cX5_stateOf 23 = .ok (.aload_n 0, 1) := by decide +kernel
theorem dX5_stateOf_24 : decode cX5_stateOf 24 = .ok (.getfield 15, 3) := by decide +kernel
theorem dX5_stateOf_27 : decode cX5_stateOf 27 = .ok (.iload_n 1, 1) := by decide +kernel
theorem dX5_stateOf_28 : decode cX5_stateOf 28 = .ok (.iaload, 1) := by decide +kernel
theorem dX5_stateOf_29 : decode cX5_stateOf 29 = .ok (.iload_n 2, 1) := by decide +kernel
theorem dX5_stateOf_30 : decode cX5_stateOf 30 = .ok (.invokestatic 77, 3) := by decide +kernel
theorem dX5_stateOf_33 : decode cX5_stateOf 33 = .ok (.invokevirtual 106, 3) := by decide +kernel
theorem dX5_stateOf_36 : decode cX5_stateOf 36 = .ok (.ifCond .le 5, 3) := by decide +kernel
theorem dX5_stateOf_39 : decode cX5_stateOf 39 = .ok (.iconst 3, 1) := by decide +kernel
theorem dX5_stateOf_40 : decode cX5_stateOf 40 = .ok (.ireturn, 1) := by decide +kernel
theorem dX5_stateOf_41 : decode cX5_stateOf 41 = .ok (.aload_n 0, 1) := by decide +kernel
theorem dX5_stateOf_42 : decode cX5_stateOf 42 = .ok (.aload_n 0, 1) := by decide +kernel
theorem dX5_stateOf_43 : decode cX5_stateOf 43 = .ok (.getfield 33, 3) := by decide +kernel
theorem dX5_stateOf_46 : decode cX5_stateOf 46 = .ok (.getfield 83, 3) := by decide +kernel
theorem dX5_stateOf_49 : decode cX5_stateOf 49 = .ok (.iload_n 1, 1) := by decide +kernel
theorem dX5_stateOf_50 : decode cX5_stateOf 50 = .ok (.iaload, 1) := by decide +kernel
theorem dX5_stateOf_51 : decode cX5_stateOf 51 = .ok (.iload_n 2, 1) := by decide +kernel
theorem dX5_stateOf_52 : decode cX5_stateOf 52 = .ok (.invokevirtual 109, 3) := by decide +kernel
theorem dX5_stateOf_55 : decode cX5_stateOf 55 = .ok (.ifCond .eq 5, 3) := by decide +kernel
theorem dX5_stateOf_58 : decode cX5_stateOf 58 = .ok (.iconst 4, 1) := by decide +kernel
theorem dX5_stateOf_59 : decode cX5_stateOf 59 = .ok (.ireturn, 1) := by decide +kernel
theorem dX5_stateOf_60 : decode cX5_stateOf 60 = .ok (.aload_n 0, 1) := by decide +kernel
theorem dX5_stateOf_61 : decode cX5_stateOf 61 = .ok (.iload_n 1, 1) := by decide +kernel
theorem dX5_stateOf_62 : decode cX5_stateOf 62 = .ok (.iload_n 2, 1) := by decide +kernel
theorem dX5_stateOf_63 : decode cX5_stateOf 63 = .ok (.invokevirtual 112, 3) := by decide +kernel
theorem dX5_stateOf_66 : decode cX5_stateOf 66 = .ok (.ifCond .eq 7, 3) := by decide +kernel
theorem dX5_stateOf_69 : decode cX5_stateOf 69 = .ok (.iconst 5, 1) := by decide +kernel
theorem dX5_stateOf_70 : decode cX5_stateOf 70 = .ok (.goto 4, 3) := by decide +kernel
theorem dX5_stateOf_73 : decode cX5_stateOf 73 = .ok (.iconst 0, 1) := by decide +kernel
theorem dX5_stateOf_74 : decode cX5_stateOf 74 = .ok (.ireturn, 1) := by decide +kernel
theorem dX5_missingTo_0 : decode cX5_missingTo 0 = .ok (.iconst 0, 1) := by decide +kernel
theorem dX5_missingTo_1 : decode cX5_missingTo 1 = .ok (.aload_n 0, 1) := by decide +kernel
theorem dX5_missingTo_2 : decode cX5_missingTo 2 = .ok (.getfield 27, 3) := by decide +kernel
theorem dX5_missingTo_5 : decode cX5_missingTo 5 = .ok (.iload_n 1, 1) := by decide +kernel
theorem dX5_missingTo_6 : decode cX5_missingTo 6 = .ok (.iaload, 1) := by decide +kernel
theorem dX5_missingTo_7 : decode cX5_missingTo 7 = .ok (.aload_n 0, 1) := by decide +kernel
theorem dX5_missingTo_8 : decode cX5_missingTo 8 = .ok (.getfield 30, 3) := by decide +kernel
theorem dX5_missingTo_11 : decode cX5_missingTo 11 = .ok (.iload_n 1, 1) := by decide +kernel
theorem dX5_missingTo_12 : decode cX5_missingTo 12 = .ok (.iload_n 2, 1) := by decide +kernel
theorem dX5_missingTo_13 : decode cX5_missingTo 13 = .ok (.invokestatic 115, 3) := by decide +kernel
theorem dX5_missingTo_16 : decode cX5_missingTo 16 = .ok (.iaload, 1) := by decide +kernel
theorem dX5_missingTo_17 : decode cX5_missingTo 17 = .ok (.invokestatic 118, 3) := by decide +kernel
theorem dX5_missingTo_20 : decode cX5_missingTo 20 = .ok (.isub, 1) := by decide +kernel
theorem dX5_missingTo_21 : decode cX5_missingTo 21 = .ok (.invokestatic 123, 3) := by decide +kernel
theorem dX5_missingTo_24 : decode cX5_missingTo 24 = .ok (.ireturn, 1) := by decide +kernel
theorem dX5_isDriftedBelow_0 : decode cX5_isDriftedBelow 0 = .ok (.iconst 0, 1) := by decide +kernel
theorem dX5_isDriftedBelow_1 : decode cX5_isDriftedBelow 1 = .ok (.istore_n 3, 1) := by decide +kernel
theorem dX5_isDriftedBelow_2 : decode cX5_isDriftedBelow 2 = .ok (.iload_n 3, 1) := by decide +kernel
theorem dX5_isDriftedBelow_3 : decode cX5_isDriftedBelow 3 = .ok (.aload_n 0, 1) := by decide +kernel
theorem dX5_isDriftedBelow_4 : decode cX5_isDriftedBelow 4 = .ok (.getfield 33, 3) := by decide +kernel
theorem dX5_isDriftedBelow_7 : decode cX5_isDriftedBelow 7 = .ok (.getfield 70, 3) := by decide +kernel
theorem dX5_isDriftedBelow_10 : decode cX5_isDriftedBelow 10 = .ok (.if_icmp .ge 41, 3) := by decide +kernel
theorem dX5_isDriftedBelow_13 : decode cX5_isDriftedBelow 13 = .ok (.aload_n 0, 1) := by decide +kernel
theorem dX5_isDriftedBelow_14 : decode cX5_isDriftedBelow 14 = .ok (.getfield 33, 3) := by decide +kernel
theorem dX5_isDriftedBelow_17 : decode cX5_isDriftedBelow 17 = .ok (.getfield 83, 3) := by decide +kernel
theorem dX5_isDriftedBelow_20 : decode cX5_isDriftedBelow 20 = .ok (.iload_n 3, 1) := by decide +kernel
theorem dX5_isDriftedBelow_21 : decode cX5_isDriftedBelow 21 = .ok (.iaload, 1) := by decide +kernel
theorem dX5_isDriftedBelow_22 : decode cX5_isDriftedBelow 22 = .ok (.iload_n 1, 1) := by decide +kernel
theorem dX5_isDriftedBelow_23 : decode cX5_isDriftedBelow 23 = .ok (.if_icmp .ge 22, 3) := by decide +kernel
theorem dX5_isDriftedBelow_26 : decode cX5_isDriftedBelow 26 = .ok (.aload_n 0, 1) := by decide +kernel
theorem dX5_isDriftedBelow_27 : decode cX5_isDriftedBelow 27 = .ok (.iload_n 3, 1) := by decide +kernel
theorem dX5_isDriftedBelow_28 : decode cX5_isDriftedBelow 28 = .ok (.invokevirtual 86, 3) := by decide +kernel
theorem dX5_isDriftedBelow_31 : decode cX5_isDriftedBelow 31 = .ok (.ifCond .ne 14, 3) := by decide +kernel
theorem dX5_isDriftedBelow_34 : decode cX5_isDriftedBelow 34 = .ok (.aload_n 0, 1) := by decide +kernel
theorem dX5_isDriftedBelow_35 : decode cX5_isDriftedBelow 35 = .ok (.iload_n 3, 1) := by decide +kernel
theorem dX5_isDriftedBelow_36 : decode cX5_isDriftedBelow 36 = .ok (.iload_n 2, 1) := by decide +kernel
theorem dX5_isDriftedBelow_37 : decode cX5_isDriftedBelow 37 = .ok (.invokevirtual 66, 3) := by decide +kernel
theorem dX5_isDriftedBelow_40 : decode cX5_isDriftedBelow 40 = .ok (.ifCond .eq 5, 3) := by decide +kernel
theorem dX5_isDriftedBelow_43 : decode cX5_isDriftedBelow 43 = .ok (.iconst 1, 1) := by decide +kernel
theorem dX5_isDriftedBelow_44 : decode cX5_isDriftedBelow 44 = .ok (.ireturn, 1) := by decide +kernel
theorem dX5_isDriftedBelow_45 : decode cX5_isDriftedBelow 45 = .ok (.iinc 3 1, 3) := by decide +kernel
theorem dX5_isDriftedBelow_48 : decode cX5_isDriftedBelow 48 = .ok (.goto (-46), 3) := by decide +kernel
theorem dX5_isDriftedBelow_51 : decode cX5_isDriftedBelow 51 = .ok (.iconst 0, 1) := by decide +kernel
theorem dX5_isDriftedBelow_52 : decode cX5_isDriftedBelow 52 = .ok (.ireturn, 1) := by decide +kernel
theorem dX5_brokenByWish_0 : decode cX5_brokenByWish 0 = .ok (.aload_n 0, 1) := by decide +kernel
theorem dX5_brokenByWish_1 : decode cX5_brokenByWish 1 = .ok (.getfield 33, 3) := by decide +kernel
theorem dX5_brokenByWish_4 : decode cX5_brokenByWish 4 = .ok (.getfield 94, 3) := by decide +kernel
theorem dX5_brokenByWish_7 : decode cX5_brokenByWish 7 = .ok (.aload_n 0, 1) := by decide +kernel
theorem dX5_brokenByWish_8 : decode cX5_brokenByWish 8 = .ok (.getfield 9, 3) := by decide +kernel
theorem dX5_brokenByWish_11 : decode cX5_brokenByWish 11 = .ok (.iload_n 1, 1) := by decide +kernel
theorem dX5_brokenByWish_12 : decode cX5_brokenByWish 12 = .ok (.iaload, 1) := by decide +kernel
theorem dX5_brokenByWish_13 : decode cX5_brokenByWish 13 = .ok (.aload_n 0, 1) := by decide +kernel
theorem dX5_brokenByWish_14 : decode cX5_brokenByWish 14 = .ok (.getfield 9, 3) := by decide +kernel
theorem dX5_brokenByWish_17 : decode cX5_brokenByWish 17 = .ok (.iload_n 1, 1) := by decide +kernel
theorem dX5_brokenByWish_18 : decode cX5_brokenByWish 18 = .ok (.iaload, 1) := by decide +kernel
theorem dX5_brokenByWish_19 : decode cX5_brokenByWish 19 = .ok (.iload_n 2, 1) := by decide +kernel
theorem dX5_brokenByWish_20 : decode cX5_brokenByWish 20 = .ok (.aload_n 0, 1) := by decide +kernel
theorem dX5_brokenByWish_21 : decode cX5_brokenByWish 21 = .ok (.getfield 15, 3) := by decide +kernel
theorem dX5_brokenByWish_24 : decode cX5_brokenByWish 24 = .ok (.iload_n 1, 1) := by decide +kernel
theorem dX5_brokenByWish_25 : decode cX5_brokenByWish 25 = .ok (.iaload, 1) := by decide +kernel
theorem dX5_brokenByWish_26 : decode cX5_brokenByWish 26 = .ok (.iload_n 2, 1) := by decide +kernel
theorem dX5_brokenByWish_27 : decode cX5_brokenByWish 27 = .ok (.invokestatic 77, 3) := by decide +kernel
theorem dX5_brokenByWish_30 : decode cX5_brokenByWish 30 = .ok (.invokestatic 128, 3) := by decide +kernel
theorem dX5_brokenByWish_33 : decode cX5_brokenByWish 33 = .ok (.invokevirtual 132, 3) := by decide +kernel
theorem dX5_brokenByWish_36 : decode cX5_brokenByWish 36 = .ok (.ireturn, 1) := by decide +kernel
theorem dX5_readyOn_0 : decode cX5_readyOn 0 = .ok (.iconst 0, 1) := by decide +kernel
theorem dX5_readyOn_1 : decode cX5_readyOn 1 = .ok (.istore_n 2, 1) := by decide +kernel
theorem dX5_readyOn_2 : decode cX5_readyOn 2 = .ok (.iload_n 2, 1) := by decide +kernel
theorem dX5_readyOn_3 : decode cX5_readyOn 3 = .ok (.aload_n 0, 1) := by decide +kernel
theorem dX5_readyOn_4 : decode cX5_readyOn 4 = .ok (.getfield 33, 3) := by decide +kernel
theorem dX5_readyOn_7 : decode cX5_readyOn 7 = .ok (.getfield 61, 3) := by decide +kernel
theorem dX5_readyOn_10 : decode cX5_readyOn 10 = .ok (.if_icmp .ge 20, 3) := by decide +kernel
theorem dX5_readyOn_13 : decode cX5_readyOn 13 = .ok (.aload_n 0, 1) := by decide +kernel
theorem dX5_readyOn_14 : decode cX5_readyOn 14 = .ok (.iload_n 1, 1) := by decide +kernel
theorem dX5_readyOn_15 : decode cX5_readyOn 15 = .ok (.iload_n 2, 1) := by decide +kernel
theorem dX5_readyOn_16 : decode cX5_readyOn 16 = .ok (.invokevirtual 135, 3) := by decide +kernel
theorem dX5_readyOn_19 : decode cX5_readyOn 19 = .ok (.ifCond .ne 5, 3) := by decide +kernel
theorem dX5_readyOn_22 : decode cX5_readyOn 22 = .ok (.iload_n 2, 1) := by decide +kernel
theorem dX5_readyOn_23 : decode cX5_readyOn 23 = .ok (.ireturn, 1) := by decide +kernel
theorem dX5_readyOn_24 : decode cX5_readyOn 24 = .ok (.iinc 2 1, 3) := by decide +kernel
theorem dX5_readyOn_27 : decode cX5_readyOn 27 = .ok (.goto (-25), 3) := by decide +kernel
theorem dX5_readyOn_30 : decode cX5_readyOn 30 = .ok (.bipush (-9), 2) := by decide +kernel
theorem dX5_readyOn_32 : decode cX5_readyOn 32 = .ok (.ireturn, 1) := by decide +kernel
theorem dX5_passTicks_0 : decode cX5_passTicks 0 = .ok (.iconst 0, 1) := by decide +kernel
theorem dX5_passTicks_1 : decode cX5_passTicks 1 = .ok (.istore_n 2, 1) := by decide +kernel
theorem dX5_passTicks_2 : decode cX5_passTicks 2 = .ok (.iload_n 2, 1) := by decide +kernel
theorem dX5_passTicks_3 : decode cX5_passTicks 3 = .ok (.iload_n 1, 1) := by decide +kernel
theorem dX5_passTicks_4 : decode cX5_passTicks 4 = .ok (.if_icmp .ge 59, 3) := by decide +kernel
theorem dX5_passTicks_7 : decode cX5_passTicks 7 = .ok (.aload_n 0, 1) := by decide +kernel
theorem dX5_passTicks_8 : decode cX5_passTicks 8 = .ok (.dup, 1) := by decide +kernel
theorem dX5_passTicks_9 : decode cX5_passTicks 9 = .ok (.getfield 43, 3) := by decide +kernel
theorem dX5_passTicks_12 : decode cX5_passTicks 12 = .ok (.iconst 1, 1) := by decide +kernel
theorem dX5_passTicks_13 : decode cX5_passTicks 13 = .ok (.iadd, 1) := by decide +kernel
theorem dX5_passTicks_14 : decode cX5_passTicks 14 = .ok (.putfield 43, 3) := by decide +kernel
theorem dX5_passTicks_17 : decode cX5_passTicks 17 = .ok (.iconst 0, 1) := by decide +kernel
theorem dX5_passTicks_18 : decode cX5_passTicks 18 = .ok (.istore_n 3, 1) := by decide +kernel
theorem dX5_passTicks_19 : decode cX5_passTicks 19 = .ok (.iload_n 3, 1) := by decide +kernel
theorem dX5_passTicks_20 : decode cX5_passTicks 20 = .ok (.aload_n 0, 1) := by decide +kernel
theorem dX5_passTicks_21 : decode cX5_passTicks 21 = .ok (.getfield 33, 3) := by decide +kernel
theorem dX5_passTicks_24 : decode cX5_passTicks 24 = .ok (.getfield 70, 3) := by decide +kernel
theorem dX5_passTicks_27 : decode cX5_passTicks 27 = .ok (.if_icmp .ge 30, 3) := by decide +kernel
theorem dX5_passTicks_30 : decode cX5_passTicks 30 = .ok (.aload_n 0, 1) := by decide +kernel
theorem dX5_passTicks_31 : decode cX5_passTicks 31 = .ok (.iload_n 3, 1) := by decide +kernel
theorem dX5_passTicks_32 : decode cX5_passTicks 32 = .ok (.invokevirtual 138, 3) := by decide +kernel
theorem dX5_passTicks_35 : decode cX5_passTicks 35 = .ok (.istore 4, 2) := by decide +kernel
theorem dX5_passTicks_37 : decode cX5_passTicks 37 = .ok (.iload 4, 2) := by decide +kernel
theorem dX5_passTicks_39 : decode cX5_passTicks 39 = .ok (.bipush (-9), 2) := by decide +kernel
theorem dX5_passTicks_41 : decode cX5_passTicks 41 = .ok (.if_icmp .eq 10, 3) := by decide +kernel
theorem dX5_passTicks_44 : decode cX5_passTicks 44 = .ok (.aload_n 0, 1) := by decide +kernel
theorem dX5_passTicks_45 : decode cX5_passTicks 45 = .ok (.iload_n 3, 1) := by decide +kernel
theorem dX5_passTicks_46 : decode cX5_passTicks 46 = .ok (.iload 4, 2) := by decide +kernel
theorem dX5_passTicks_48 : decode cX5_passTicks 48 = .ok (.invokevirtual 141, 3) := by decide +kernel
theorem dX5_passTicks_51 : decode cX5_passTicks 51 = .ok (.iinc 3 1, 3) := by decide +kernel
theorem dX5_passTicks_54 : decode cX5_passTicks 54 = .ok (.goto (-35), 3) := by decide +kernel
theorem dX5_passTicks_57 : decode cX5_passTicks 57 = .ok (.iinc 2 1, 3) := by decide +kernel
theorem dX5_passTicks_60 : decode cX5_passTicks 60 = .ok (.goto (-58), 3) := by decide +kernel
theorem dX5_passTicks_63 : decode cX5_passTicks 63 = .ok (.return_, 1) := by decide +kernel
theorem dX5_attempt_0 : decode cX5_attempt 0 = .ok (.aload_n 0, 1) := by decide +kernel
theorem dX5_attempt_1 : decode cX5_attempt 1 = .ok (.getfield 18, 3) := by decide +kernel
theorem dX5_attempt_4 : decode cX5_attempt 4 = .ok (.iload_n 1, 1) := by decide +kernel
theorem dX5_attempt_5 : decode cX5_attempt 5 = .ok (.iaload, 1) := by decide +kernel
theorem dX5_attempt_6 : decode cX5_attempt 6 = .ok (.ifCond .ne 47, 3) := by decide +kernel
theorem dX5_attempt_9 : decode cX5_attempt 9 = .ok (.aload_n 0, 1) := by decide +kernel
theorem dX5_attempt_10 : decode cX5_attempt 10 = .ok (.getfield 9, 3) := by decide +kernel
theorem dX5_attempt_13 : decode cX5_attempt 13 = .ok (.iload_n 1, 1) := by decide +kernel
theorem dX5_attempt_14 : decode cX5_attempt 14 = .ok (.aload_n 0, 1) := by decide +kernel
theorem dX5_attempt_15 : decode cX5_attempt 15 = .ok (.getfield 9, 3) := by decide +kernel
theorem dX5_attempt_18 : decode cX5_attempt 18 = .ok (.iload_n 1, 1) := by decide +kernel
theorem dX5_attempt_19 : decode cX5_attempt 19 = .ok (.iaload, 1) := by decide +kernel
theorem dX5_attempt_20 : decode cX5_attempt 20 = .ok (.iload_n 2, 1) := by decide +kernel
theorem dX5_attempt_21 : decode cX5_attempt 21 = .ok (.aload_n 0, 1) := by decide +kernel
theorem dX5_attempt_22 : decode cX5_attempt 22 = .ok (.getfield 15, 3) := by decide +kernel
theorem dX5_attempt_25 : decode cX5_attempt 25 = .ok (.iload_n 1, 1) := by decide +kernel
theorem dX5_attempt_26 : decode cX5_attempt 26 = .ok (.iaload, 1) := by decide +kernel
theorem dX5_attempt_27 : decode cX5_attempt 27 = .ok (.iload_n 2, 1) := by decide +kernel
theorem dX5_attempt_28 : decode cX5_attempt 28 = .ok (.invokestatic 77, 3) := by decide +kernel
theorem dX5_attempt_31 : decode cX5_attempt 31 = .ok (.invokestatic 128, 3) := by decide +kernel
theorem dX5_attempt_34 : decode cX5_attempt 34 = .ok (.iastore, 1) := by decide +kernel
theorem dX5_attempt_35 : decode cX5_attempt 35 = .ok (.aload_n 0, 1) := by decide +kernel
theorem dX5_attempt_36 : decode cX5_attempt 36 = .ok (.getfield 21, 3) := by decide +kernel
theorem dX5_attempt_39 : decode cX5_attempt 39 = .ok (.iload_n 1, 1) := by decide +kernel
theorem dX5_attempt_40 : decode cX5_attempt 40 = .ok (.iconst 0, 1) := by decide +kernel
theorem dX5_attempt_41 : decode cX5_attempt 41 = .ok (.iastore, 1) := by decide +kernel
theorem dX5_attempt_42 : decode cX5_attempt 42 = .ok (.aload_n 0, 1) := by decide +kernel
theorem dX5_attempt_43 : decode cX5_attempt 43 = .ok (.dup, 1) := by decide +kernel
theorem dX5_attempt_44 : decode cX5_attempt 44 = .ok (.getfield 47, 3) := by decide +kernel
theorem dX5_attempt_47 : decode cX5_attempt 47 = .ok (.iconst 1, 1) := by decide +kernel
theorem dX5_attempt_48 : decode cX5_attempt 48 = .ok (.iadd, 1) := by decide +kernel
theorem dX5_attempt_49 : decode cX5_attempt 49 = .ok (.putfield 47, 3) := by decide +kernel
theorem dX5_attempt_52 : decode cX5_attempt 52 = .ok (.return_, 1) := by decide +kernel
theorem dX5_attempt_53 : decode cX5_attempt 53 = .ok (.aload_n 0, 1) := by decide +kernel
theorem dX5_attempt_54 : decode cX5_attempt 54 = .ok (.getfield 18, 3) := by decide +kernel
theorem dX5_attempt_57 : decode cX5_attempt 57 = .ok (.iload_n 1, 1) := by decide +kernel
theorem dX5_attempt_58 : decode cX5_attempt 58 = .ok (.dup2, 1) := by decide +kernel
theorem dX5_attempt_59 : decode cX5_attempt 59 = .ok (.iaload, 1) := by decide +kernel
theorem dX5_attempt_60 : decode cX5_attempt 60 = .ok (.iconst 1, 1) := by decide +kernel
theorem dX5_attempt_61 : decode cX5_attempt 61 = .ok (.isub, 1) := by decide +kernel
theorem dX5_attempt_62 : decode cX5_attempt 62 = .ok (.iastore, 1) := by decide +kernel
theorem dX5_attempt_63 : decode cX5_attempt 63 = .ok (.aload_n 0, 1) := by decide +kernel
theorem dX5_attempt_64 : decode cX5_attempt 64 = .ok (.getfield 21, 3) := by decide +kernel
theorem dX5_attempt_67 : decode cX5_attempt 67 = .ok (.iload_n 1, 1) := by decide +kernel
theorem dX5_attempt_68 : decode cX5_attempt 68 = .ok (.dup2, 1) := by decide +kernel
theorem dX5_attempt_69 : decode cX5_attempt 69 = .ok (.iaload, 1) := by decide +kernel
theorem dX5_attempt_70 : decode cX5_attempt 70 = .ok (.iconst 1, 1) := by decide +kernel
theorem dX5_attempt_71 : decode cX5_attempt 71 = .ok (.iadd, 1) := by decide +kernel
theorem dX5_attempt_72 : decode cX5_attempt 72 = .ok (.iastore, 1) := by decide +kernel
theorem dX5_attempt_73 : decode cX5_attempt 73 = .ok (.aload_n 0, 1) := by decide +kernel
theorem dX5_attempt_74 : decode cX5_attempt 74 = .ok (.getfield 21, 3) := by decide +kernel
theorem dX5_attempt_77 : decode cX5_attempt 77 = .ok (.iload_n 1, 1) := by decide +kernel
theorem dX5_attempt_78 : decode cX5_attempt 78 = .ok (.iaload, 1) := by decide +kernel
theorem dX5_attempt_79 : decode cX5_attempt 79 = .ok (.aload_n 0, 1) := by decide +kernel
theorem dX5_attempt_80 : decode cX5_attempt 80 = .ok (.getfield 33, 3) := by decide +kernel
theorem dX5_attempt_83 : decode cX5_attempt 83 = .ok (.getfield 145, 3) := by decide +kernel
theorem dX5_attempt_86 : decode cX5_attempt 86 = .ok (.if_icmp .ne 28, 3) := by decide +kernel
theorem dX5_attempt_89 : decode cX5_attempt 89 = .ok (.aload_n 0, 1) := by decide +kernel
theorem dX5_attempt_90 : decode cX5_attempt 90 = .ok (.getfield 21, 3) := by decide +kernel
theorem dX5_attempt_93 : decode cX5_attempt 93 = .ok (.iload_n 1, 1) := by decide +kernel
theorem dX5_attempt_94 : decode cX5_attempt 94 = .ok (.iconst 0, 1) := by decide +kernel
theorem dX5_attempt_95 : decode cX5_attempt 95 = .ok (.iastore, 1) := by decide +kernel
theorem dX5_attempt_96 : decode cX5_attempt 96 = .ok (.aload_n 0, 1) := by decide +kernel
theorem dX5_attempt_97 : decode cX5_attempt 97 = .ok (.getfield 24, 3) := by decide +kernel
theorem dX5_attempt_100 : decode cX5_attempt 100 = .ok (.iload_n 1, 1) := by decide +kernel
theorem dX5_attempt_101 : decode cX5_attempt 101 = .ok (.aload_n 0, 1) := by decide +kernel
theorem dX5_attempt_102 : decode cX5_attempt 102 = .ok (.getfield 43, 3) := by decide +kernel
theorem dX5_attempt_105 : decode cX5_attempt 105 = .ok (.aload_n 0, 1) := by decide +kernel
theorem dX5_attempt_106 : decode cX5_attempt 106 = .ok (.getfield 33, 3) := by decide +kernel
theorem dX5_attempt_109 : decode cX5_attempt 109 = .ok (.getfield 148, 3) := by decide +kernel
theorem dX5_attempt_112 : decode cX5_attempt 112 = .ok (.iadd, 1) := by decide +kernel
theorem dX5_attempt_113 : decode cX5_attempt 113 = .ok (.iastore, 1) := by decide +kernel
theorem dX5_attempt_114 : decode cX5_attempt 114 = .ok (.return_, 1) := by decide +kernel
theorem dX5_pairsHeldUpBy_0 : decode cX5_pairsHeldUpBy 0 = .ok (.iconst 0, 1) := by decide +kernel
theorem dX5_pairsHeldUpBy_1 : decode cX5_pairsHeldUpBy 1 = .ok (.istore_n 2, 1) := by decide +kernel
theorem dX5_pairsHeldUpBy_2 : decode cX5_pairsHeldUpBy 2 = .ok (.iconst 0, 1) := by decide +kernel
theorem dX5_pairsHeldUpBy_3 : decode cX5_pairsHeldUpBy 3 = .ok (.istore_n 3, 1) := by decide +kernel
theorem dX5_pairsHeldUpBy_4 : decode cX5_pairsHeldUpBy 4 = .ok (.iload_n 3, 1) := by decide +kernel
theorem dX5_pairsHeldUpBy_5 : decode cX5_pairsHeldUpBy 5 = .ok (.aload_n 0, 1) := by decide +kernel
theorem dX5_pairsHeldUpBy_6 : decode cX5_pairsHeldUpBy 6 = .ok (.getfield 33, 3) := by decide +kernel
theorem dX5_pairsHeldUpBy_9 : decode cX5_pairsHeldUpBy 9 = .ok (.getfield 70, 3) := by decide +kernel
theorem dX5_pairsHeldUpBy_12 : decode cX5_pairsHeldUpBy 12 = .ok (.if_icmp .ge 57, 3) := by decide +kernel
theorem dX5_pairsHeldUpBy_15 : decode cX5_pairsHeldUpBy 15 = .ok (.iconst 0, 1) := by decide +kernel
theorem dX5_pairsHeldUpBy_16 : decode cX5_pairsHeldUpBy 16 = .ok (.istore 4, 2) := by decide +kernel
theorem dX5_pairsHeldUpBy_18 : decode cX5_pairsHeldUpBy 18 = .ok (.iload 4, 2) := by decide +kernel
theorem dX5_pairsHeldUpBy_20 : decode cX5_pairsHeldUpBy 20 = .ok (.aload_n 0, 1) := by decide +kernel
theorem dX5_pairsHeldUpBy_21 : decode cX5_pairsHeldUpBy 21 = .ok (.getfield 33, 3) := by decide +kernel
theorem dX5_pairsHeldUpBy_24 : decode cX5_pairsHeldUpBy 24 = .ok (.getfield 61, 3) := by decide +kernel
theorem dX5_pairsHeldUpBy_27 : decode cX5_pairsHeldUpBy 27 = .ok (.if_icmp .ge 36, 3) := by decide +kernel
theorem dX5_pairsHeldUpBy_30 : decode cX5_pairsHeldUpBy 30 = .ok (.aload_n 0, 1) := by decide +kernel
theorem dX5_pairsHeldUpBy_31 : decode cX5_pairsHeldUpBy 31 = .ok (.iload_n 3, 1) := by decide +kernel
theorem dX5_pairsHeldUpBy_32 : decode cX5_pairsHeldUpBy 32 = .ok (.iload 4, 2) := by decide +kernel
theorem dX5_pairsHeldUpBy_34 : decode cX5_pairsHeldUpBy 34 = .ok (.invokevirtual 135, 3) := by decide +kernel
theorem dX5_pairsHeldUpBy_37 : decode cX5_pairsHeldUpBy 37 = .ok (.iconst 5, 1) := by decide +kernel
theorem dX5_pairsHeldUpBy_38 : decode cX5_pairsHeldUpBy 38 = .ok (.if_icmp .ne 19, 3) := by decide +kernel
theorem dX5_pairsHeldUpBy_41 : decode cX5_pairsHeldUpBy 41 = .ok (.aload_n 0, 1) := by decide +kernel
theorem dX5_pairsHeldUpBy_42 : decode cX5_pairsHeldUpBy 42 = .ok (.iload_n 3, 1) := by decide +kernel
theorem dX5_pairsHeldUpBy_43 : decode cX5_pairsHeldUpBy 43 = .ok (.iload 4, 2) := by decide +kernel
theorem dX5_pairsHeldUpBy_45 : decode cX5_pairsHeldUpBy 45 = .ok (.invokevirtual 112, 3) := by decide +kernel
theorem dX5_pairsHeldUpBy_48 : decode cX5_pairsHeldUpBy 48 = .ok (.iconst 1, 1) := by decide +kernel
theorem dX5_pairsHeldUpBy_49 : decode cX5_pairsHeldUpBy 49 = .ok (.iload_n 1, 1) := by decide +kernel
theorem dX5_pairsHeldUpBy_50 : decode cX5_pairsHeldUpBy 50 = .ok (.ishl, 1) := by decide +kernel
theorem dX5_pairsHeldUpBy_51 : decode cX5_pairsHeldUpBy 51 = .ok (.if_icmp .ne 6, 3) := by decide +kernel
theorem dX5_pairsHeldUpBy_54 : decode cX5_pairsHeldUpBy 54 = .ok (.iinc 2 1, 3) := by decide +kernel
theorem dX5_pairsHeldUpBy_57 : decode cX5_pairsHeldUpBy 57 = .ok (.iinc 4 1, 3) := by decide +kernel
theorem dX5_pairsHeldUpBy_60 : decode cX5_pairsHeldUpBy 60 = .ok (.goto (-42), 3) := by decide +kernel
theorem dX5_pairsHeldUpBy_63 : decode cX5_pairsHeldUpBy 63 = .ok (.iinc 3 1, 3) := by decide +kernel
theorem dX5_pairsHeldUpBy_66 : decode cX5_pairsHeldUpBy 66 = .ok (.goto (-62), 3) := by decide +kernel
theorem dX5_pairsHeldUpBy_69 : decode cX5_pairsHeldUpBy 69 = .ok (.iload_n 2, 1) := by decide +kernel
theorem dX5_pairsHeldUpBy_70 : decode cX5_pairsHeldUpBy 70 = .ok (.ireturn, 1) := by decide +kernel
theorem dX5_missingApprovals_0 : decode cX5_missingApprovals 0 = .ok (.iconst 0, 1) := by decide +kernel
theorem dX5_missingApprovals_1 : decode cX5_missingApprovals 1 = .ok (.istore_n 2, 1) := by decide +kernel
theorem dX5_missingApprovals_2 : decode cX5_missingApprovals 2 = .ok (.iconst 0, 1) := by decide +kernel
theorem dX5_missingApprovals_3 : decode cX5_missingApprovals 3 = .ok (.istore_n 3, 1) := by decide +kernel
theorem dX5_missingApprovals_4 : decode cX5_missingApprovals 4 = .ok (.iload_n 3, 1) := by decide +kernel
theorem dX5_missingApprovals_5 : decode cX5_missingApprovals 5 = .ok (.iconst 4, 1) := by decide +kernel
theorem dX5_missingApprovals_6 : decode cX5_missingApprovals 6 = .ok (.if_icmp .ge 27, 3) := by decide +kernel
theorem dX5_missingApprovals_9 : decode cX5_missingApprovals 9 = .ok (.aload_n 0, 1) := by decide +kernel
theorem dX5_missingApprovals_10 : decode cX5_missingApprovals 10 = .ok (.iload_n 1, 1) := by decide +kernel
theorem dX5_missingApprovals_11 : decode cX5_missingApprovals 11 = .ok (.iload_n 3, 1) := by decide +kernel
theorem dX5_missingApprovals_12 : decode cX5_missingApprovals 12 = .ok (.invokevirtual 151, 3) := by decide +kernel
theorem dX5_missingApprovals_15 : decode cX5_missingApprovals 15 = .ok (.ifCond .eq 12, 3) := by decide +kernel
theorem dX5_missingApprovals_18 : decode cX5_missingApprovals 18 = .ok (.iload_n 2, 1) := by decide +kernel
theorem dX5_missingApprovals_19 : decode cX5_missingApprovals 19 = .ok (.aload_n 0, 1) := by decide +kernel
theorem dX5_missingApprovals_20 : decode cX5_missingApprovals 20 = .ok (.iload_n 1, 1) := by decide +kernel
theorem dX5_missingApprovals_21 : decode cX5_missingApprovals 21 = .ok (.iload_n 3, 1) := by decide +kernel
theorem dX5_missingApprovals_22 : decode cX5_missingApprovals 22 = .ok (.invokevirtual 106, 3) := by decide +kernel
theorem dX5_missingApprovals_25 : decode cX5_missingApprovals 25 = .ok (.iadd, 1) := by decide +kernel
theorem dX5_missingApprovals_26 : decode cX5_missingApprovals 26 = .ok (.istore_n 2, 1) := by decide +kernel
theorem dX5_missingApprovals_27 : decode cX5_missingApprovals 27 = .ok (.iinc 3 1, 3) := by decide +kernel
theorem dX5_missingApprovals_30 : decode cX5_missingApprovals 30 = .ok (.goto (-26), 3) := by decide +kernel
theorem dX5_missingApprovals_33 : decode cX5_missingApprovals 33 = .ok (.iload_n 2, 1) := by decide +kernel
theorem dX5_missingApprovals_34 : decode cX5_missingApprovals 34 = .ok (.ireturn, 1) := by decide +kernel
theorem dX5_isAwaited_0 : decode cX5_isAwaited 0 = .ok (.iconst 0, 1) := by decide +kernel
theorem dX5_isAwaited_1 : decode cX5_isAwaited 1 = .ok (.istore_n 3, 1) := by decide +kernel
theorem dX5_isAwaited_2 : decode cX5_isAwaited 2 = .ok (.iload_n 3, 1) := by decide +kernel
theorem dX5_isAwaited_3 : decode cX5_isAwaited 3 = .ok (.aload_n 0, 1) := by decide +kernel
theorem dX5_isAwaited_4 : decode cX5_isAwaited 4 = .ok (.getfield 33, 3) := by decide +kernel
theorem dX5_isAwaited_7 : decode cX5_isAwaited 7 = .ok (.getfield 70, 3) := by decide +kernel
theorem dX5_isAwaited_10 : decode cX5_isAwaited 10 = .ok (.if_icmp .ge 34, 3) := by decide +kernel
theorem dX5_isAwaited_13 : decode cX5_isAwaited 13 = .ok (.aload_n 0, 1) := by decide +kernel
theorem dX5_isAwaited_14 : decode cX5_isAwaited 14 = .ok (.iload_n 3, 1) := by decide +kernel
theorem dX5_isAwaited_15 : decode cX5_isAwaited 15 = .ok (.iload_n 1, 1) := by decide +kernel
theorem dX5_isAwaited_16 : decode cX5_isAwaited 16 = .ok (.invokevirtual 66, 3) := by decide +kernel
theorem dX5_isAwaited_19 : decode cX5_isAwaited 19 = .ok (.ifCond .eq 19, 3) := by decide +kernel
theorem dX5_isAwaited_22 : decode cX5_isAwaited 22 = .ok (.aload_n 0, 1) := by decide +kernel
theorem dX5_isAwaited_23 : decode cX5_isAwaited 23 = .ok (.getfield 15, 3) := by decide +kernel
theorem dX5_isAwaited_26 : decode cX5_isAwaited 26 = .ok (.iload_n 3, 1) := by decide +kernel
theorem dX5_isAwaited_27 : decode cX5_isAwaited 27 = .ok (.iaload, 1) := by decide +kernel
theorem dX5_isAwaited_28 : decode cX5_isAwaited 28 = .ok (.iload_n 1, 1) := by decide +kernel
theorem dX5_isAwaited_29 : decode cX5_isAwaited 29 = .ok (.invokestatic 77, 3) := by decide +kernel
theorem dX5_isAwaited_32 : decode cX5_isAwaited 32 = .ok (.iload_n 2, 1) := by decide +kernel
theorem dX5_isAwaited_33 : decode cX5_isAwaited 33 = .ok (.if_icmp .ne 5, 3) := by decide +kernel
theorem dX5_isAwaited_36 : decode cX5_isAwaited 36 = .ok (.iconst 1, 1) := by decide +kernel
theorem dX5_isAwaited_37 : decode cX5_isAwaited 37 = .ok (.ireturn, 1) := by decide +kernel
theorem dX5_isAwaited_38 : decode cX5_isAwaited 38 = .ok (.iinc 3 1, 3) := by decide +kernel
theorem dX5_isAwaited_41 : decode cX5_isAwaited 41 = .ok (.goto (-39), 3) := by decide +kernel
theorem dX5_isAwaited_44 : decode cX5_isAwaited 44 = .ok (.iconst 0, 1) := by decide +kernel
theorem dX5_isAwaited_45 : decode cX5_isAwaited 45 = .ok (.ireturn, 1) := by decide +kernel
theorem dX5_changesTo_0 : decode cX5_changesTo 0 = .ok (.iload_n 2, 1) := by decide +kernel
theorem dX5_changesTo_1 : decode cX5_changesTo 1 = .ok (.aload_n 0, 1) := by decide +kernel
theorem dX5_changesTo_2 : decode cX5_changesTo 2 = .ok (.iload_n 1, 1) := by decide +kernel
theorem dX5_changesTo_3 : decode cX5_changesTo 3 = .ok (.invokevirtual 103, 3) := by decide +kernel
theorem dX5_changesTo_6 : decode cX5_changesTo 6 = .ok (.isub, 1) := by decide +kernel
theorem dX5_changesTo_7 : decode cX5_changesTo 7 = .ok (.istore_n 3, 1) := by decide +kernel
theorem dX5_changesTo_8 : decode cX5_changesTo 8 = .ok (.iconst 0, 1) := by decide +kernel
theorem dX5_changesTo_9 : decode cX5_changesTo 9 = .ok (.istore 4, 2) := by decide +kernel
theorem dX5_changesTo_11 : decode cX5_changesTo 11 = .ok (.iconst 0, 1) := by decide +kernel
theorem dX5_changesTo_12 : decode cX5_changesTo 12 = .ok (.istore 5, 2) := by decide +kernel
theorem dX5_changesTo_14 : decode cX5_changesTo 14 = .ok (.iload 5, 2) := by decide +kernel
theorem dX5_changesTo_16 : decode cX5_changesTo 16 = .ok (.aload_n 0, 1) := by decide +kernel
theorem dX5_changesTo_17 : decode cX5_changesTo 17 = .ok (.getfield 33, 3) := by decide +kernel
theorem dX5_changesTo_20 : decode cX5_changesTo 20 = .ok (.getfield 61, 3) := by decide +kernel
theorem dX5_changesTo_23 : decode cX5_changesTo 23 = .ok (.if_icmp .ge 72, 3) := by decide +kernel
theorem dX5_changesTo_26 : decode cX5_changesTo 26 = .ok (.aload_n 0, 1) := by decide +kernel
theorem dX5_changesTo_27 : decode cX5_changesTo 27 = .ok (.getfield 9, 3) := by decide +kernel
theorem dX5_changesTo_30 : decode cX5_changesTo 30 = .ok (.iload_n 1, 1) := by decide +kernel
theorem dX5_changesTo_31 : decode cX5_changesTo 31 = .ok (.iaload, 1) := by decide +kernel
theorem dX5_changesTo_32 : decode cX5_changesTo 32 = .ok (.iload 5, 2) := by decide +kernel
theorem dX5_changesTo_34 : decode cX5_changesTo 34 = .ok (.invokestatic 77, 3) := by decide +kernel
theorem dX5_changesTo_37 : decode cX5_changesTo 37 = .ok (.istore 6, 2) := by decide +kernel
theorem dX5_changesTo_39 : decode cX5_changesTo 39 = .ok (.iconst 0, 1) := by decide +kernel
theorem dX5_changesTo_40 : decode cX5_changesTo 40 = .ok (.istore 7, 2) := by decide +kernel
theorem dX5_changesTo_42 : decode cX5_changesTo 42 = .ok (.iload 7, 2) := by decide +kernel
theorem dX5_changesTo_44 : decode cX5_changesTo 44 = .ok (.iconst 4, 1) := by decide +kernel
theorem dX5_changesTo_45 : decode cX5_changesTo 45 = .ok (.if_icmp .ge 44, 3) := by decide +kernel
theorem dX5_changesTo_48 : decode cX5_changesTo 48 = .ok (.iload 7, 2) := by decide +kernel
theorem dX5_changesTo_50 : decode cX5_changesTo 50 = .ok (.iload 6, 2) := by decide +kernel
theorem dX5_changesTo_52 : decode cX5_changesTo 52 = .ok (.if_icmp .eq 31, 3) := by decide +kernel
theorem dX5_changesTo_55 : decode cX5_changesTo 55 = .ok (.iload 5, 2) := by decide +kernel
theorem dX5_changesTo_57 : decode cX5_changesTo 57 = .ok (.iconst 1, 1) := by decide +kernel
theorem dX5_changesTo_58 : decode cX5_changesTo 58 = .ok (.iadd, 1) := by decide +kernel
theorem dX5_changesTo_59 : decode cX5_changesTo 59 = .ok (.iload 7, 2) := by decide +kernel
theorem dX5_changesTo_61 : decode cX5_changesTo 61 = .ok (.iload 6, 2) := by decide +kernel
theorem dX5_changesTo_63 : decode cX5_changesTo 63 = .ok (.isub, 1) := by decide +kernel
theorem dX5_changesTo_64 : decode cX5_changesTo 64 = .ok (.imul, 1) := by decide +kernel
theorem dX5_changesTo_65 : decode cX5_changesTo 65 = .ok (.iload_n 3, 1) := by decide +kernel
theorem dX5_changesTo_66 : decode cX5_changesTo 66 = .ok (.if_icmp .ne 17, 3) := by decide +kernel
theorem dX5_changesTo_69 : decode cX5_changesTo 69 = .ok (.iload 4, 2) := by decide +kernel
theorem dX5_changesTo_71 : decode cX5_changesTo 71 = .ok (.iconst 1, 1) := by decide +kernel
theorem dX5_changesTo_72 : decode cX5_changesTo 72 = .ok (.iload 5, 2) := by decide +kernel
theorem dX5_changesTo_74 : decode cX5_changesTo 74 = .ok (.iload 7, 2) := by decide +kernel
theorem dX5_changesTo_76 : decode cX5_changesTo 76 = .ok (.invokestatic 115, 3) := by decide +kernel
theorem dX5_changesTo_79 : decode cX5_changesTo 79 = .ok (.ishl, 1) := by decide +kernel
theorem dX5_changesTo_80 : decode cX5_changesTo 80 = .ok (.ior, 1) := by decide +kernel
theorem dX5_changesTo_81 : decode cX5_changesTo 81 = .ok (.istore 4, 2) := by decide +kernel
theorem dX5_changesTo_83 : decode cX5_changesTo 83 = .ok (.iinc 7 1, 3) := by decide +kernel
theorem dX5_changesTo_86 : decode cX5_changesTo 86 = .ok (.goto (-44), 3) := by decide +kernel
theorem dX5_changesTo_89 : decode cX5_changesTo 89 = .ok (.iinc 5 1, 3) := by decide +kernel
theorem dX5_changesTo_92 : decode cX5_changesTo 92 = .ok (.goto (-78), 3) := by decide +kernel
theorem dX5_changesTo_95 : decode cX5_changesTo 95 = .ok (.iload 4, 2) := by decide +kernel
theorem dX5_changesTo_97 : decode cX5_changesTo 97 = .ok (.ireturn, 1) := by decide +kernel
theorem dX5_rankOf_0 : decode cX5_rankOf 0 = .ok (.iconst 0, 1) := by decide +kernel
theorem dX5_rankOf_1 : decode cX5_rankOf 1 = .ok (.istore_n 2, 1) := by decide +kernel
theorem dX5_rankOf_2 : decode cX5_rankOf 2 = .ok (.iconst 0, 1) := by decide +kernel
theorem dX5_rankOf_3 : decode cX5_rankOf 3 = .ok (.istore_n 3, 1) := by decide +kernel
theorem dX5_rankOf_4 : decode cX5_rankOf 4 = .ok (.iload_n 3, 1) := by decide +kernel
theorem dX5_rankOf_5 : decode cX5_rankOf 5 = .ok (.aload_n 0, 1) := by decide +kernel
theorem dX5_rankOf_6 : decode cX5_rankOf 6 = .ok (.getfield 33, 3) := by decide +kernel
theorem dX5_rankOf_9 : decode cX5_rankOf 9 = .ok (.getfield 70, 3) := by decide +kernel
theorem dX5_rankOf_12 : decode cX5_rankOf 12 = .ok (.if_icmp .ge 21, 3) := by decide +kernel
theorem dX5_rankOf_15 : decode cX5_rankOf 15 = .ok (.aload_n 0, 1) := by decide +kernel
theorem dX5_rankOf_16 : decode cX5_rankOf 16 = .ok (.iload_n 3, 1) := by decide +kernel
theorem dX5_rankOf_17 : decode cX5_rankOf 17 = .ok (.iload_n 1, 1) := by decide +kernel
theorem dX5_rankOf_18 : decode cX5_rankOf 18 = .ok (.invokevirtual 154, 3) := by decide +kernel
theorem dX5_rankOf_21 : decode cX5_rankOf 21 = .ok (.ifCond .eq 6, 3) := by decide +kernel
theorem dX5_rankOf_24 : decode cX5_rankOf 24 = .ok (.iinc 2 1, 3) := by decide +kernel
theorem dX5_rankOf_27 : decode cX5_rankOf 27 = .ok (.iinc 3 1, 3) := by decide +kernel
theorem dX5_rankOf_30 : decode cX5_rankOf 30 = .ok (.goto (-26), 3) := by decide +kernel
theorem dX5_rankOf_33 : decode cX5_rankOf 33 = .ok (.iload_n 2, 1) := by decide +kernel
theorem dX5_rankOf_34 : decode cX5_rankOf 34 = .ok (.ireturn, 1) := by decide +kernel
theorem dX5_isFarther_0 : decode cX5_isFarther 0 = .ok (.aload_n 0, 1) := by decide +kernel
theorem dX5_isFarther_1 : decode cX5_isFarther 1 = .ok (.iload_n 1, 1) := by decide +kernel
theorem dX5_isFarther_2 : decode cX5_isFarther 2 = .ok (.invokevirtual 90, 3) := by decide +kernel
theorem dX5_isFarther_5 : decode cX5_isFarther 5 = .ok (.invokestatic 118, 3) := by decide +kernel
theorem dX5_isFarther_8 : decode cX5_isFarther 8 = .ok (.aload_n 0, 1) := by decide +kernel
theorem dX5_isFarther_9 : decode cX5_isFarther 9 = .ok (.iload_n 2, 1) := by decide +kernel
theorem dX5_isFarther_10 : decode cX5_isFarther 10 = .ok (.invokevirtual 90, 3) := by decide +kernel
theorem dX5_isFarther_13 : decode cX5_isFarther 13 = .ok (.invokestatic 118, 3) := by decide +kernel
theorem dX5_isFarther_16 : decode cX5_isFarther 16 = .ok (.isub, 1) := by decide +kernel
theorem dX5_isFarther_17 : decode cX5_isFarther 17 = .ok (.istore_n 3, 1) := by decide +kernel
theorem dX5_isFarther_18 : decode cX5_isFarther 18 = .ok (.iload_n 3, 1) := by decide +kernel
theorem dX5_isFarther_19 : decode cX5_isFarther 19 = .ok (.ifCond .eq 13, 3) := by decide +kernel
theorem dX5_isFarther_22 : decode cX5_isFarther 22 = .ok (.iload_n 3, 1) := by decide +kernel
theorem dX5_isFarther_23 : decode cX5_isFarther 23 = .ok (.ifCond .le 7, 3) := by decide +kernel
theorem dX5_isFarther_26 : decode cX5_isFarther 26 = .ok (.iconst 1, 1) := by decide +kernel
theorem dX5_isFarther_27 : decode cX5_isFarther 27 = .ok (.goto 4, 3) := by decide +kernel
theorem dX5_isFarther_30 : decode cX5_isFarther 30 = .ok (.iconst 0, 1) := by decide +kernel
theorem dX5_isFarther_31 : decode cX5_isFarther 31 = .ok (.ireturn, 1) := by decide +kernel
theorem dX5_isFarther_32 : decode cX5_isFarther 32 = .ok (.aload_n 0, 1) := by decide +kernel
theorem dX5_isFarther_33 : decode cX5_isFarther 33 = .ok (.getfield 33, 3) := by decide +kernel
theorem dX5_isFarther_36 : decode cX5_isFarther 36 = .ok (.getfield 94, 3) := by decide +kernel
theorem dX5_isFarther_39 : decode cX5_isFarther 39 = .ok (.aload_n 0, 1) := by decide +kernel
theorem dX5_isFarther_40 : decode cX5_isFarther 40 = .ok (.getfield 9, 3) := by decide +kernel
theorem dX5_isFarther_43 : decode cX5_isFarther 43 = .ok (.iload_n 1, 1) := by decide +kernel
theorem dX5_isFarther_44 : decode cX5_isFarther 44 = .ok (.iaload, 1) := by decide +kernel
theorem dX5_isFarther_45 : decode cX5_isFarther 45 = .ok (.invokevirtual 98, 3) := by decide +kernel
theorem dX5_isFarther_48 : decode cX5_isFarther 48 = .ok (.invokestatic 118, 3) := by decide +kernel
theorem dX5_isFarther_51 : decode cX5_isFarther 51 = .ok (.aload_n 0, 1) := by decide +kernel
theorem dX5_isFarther_52 : decode cX5_isFarther 52 = .ok (.getfield 33, 3) := by decide +kernel
theorem dX5_isFarther_55 : decode cX5_isFarther 55 = .ok (.getfield 94, 3) := by decide +kernel
theorem dX5_isFarther_58 : decode cX5_isFarther 58 = .ok (.aload_n 0, 1) := by decide +kernel
theorem dX5_isFarther_59 : decode cX5_isFarther 59 = .ok (.getfield 9, 3) := by decide +kernel
theorem dX5_isFarther_62 : decode cX5_isFarther 62 = .ok (.iload_n 2, 1) := by decide +kernel
theorem dX5_isFarther_63 : decode cX5_isFarther 63 = .ok (.iaload, 1) := by decide +kernel
theorem dX5_isFarther_64 : decode cX5_isFarther 64 = .ok (.invokevirtual 98, 3) := by decide +kernel
theorem dX5_isFarther_67 : decode cX5_isFarther 67 = .ok (.invokestatic 118, 3) := by decide +kernel
theorem dX5_isFarther_70 : decode cX5_isFarther 70 = .ok (.isub, 1) := by decide +kernel
theorem dX5_isFarther_71 : decode cX5_isFarther 71 = .ok (.istore 4, 2) := by decide +kernel
theorem dX5_isFarther_73 : decode cX5_isFarther 73 = .ok (.iload 4, 2) := by decide +kernel
theorem dX5_isFarther_75 : decode cX5_isFarther 75 = .ok (.ifCond .eq 16, 3) := by decide +kernel
theorem dX5_isFarther_78 : decode cX5_isFarther 78 = .ok (.iload 4, 2) := by decide +kernel
theorem dX5_isFarther_80 : decode cX5_isFarther 80 = .ok (.ifCond .le 7, 3) := by decide +kernel
theorem dX5_isFarther_83 : decode cX5_isFarther 83 = .ok (.iconst 1, 1) := by decide +kernel
theorem dX5_isFarther_84 : decode cX5_isFarther 84 = .ok (.goto 17, 3) := by decide +kernel
theorem dX5_isFarther_87 : decode cX5_isFarther 87 = .ok (.iconst 0, 1) := by decide +kernel
theorem dX5_isFarther_88 : decode cX5_isFarther 88 = .ok (.goto 13, 3) := by decide +kernel
theorem dX5_isFarther_91 : decode cX5_isFarther 91 = .ok (.iload_n 1, 1) := by decide +kernel
theorem dX5_isFarther_92 : decode cX5_isFarther 92 = .ok (.iload_n 2, 1) := by decide +kernel
theorem dX5_isFarther_93 : decode cX5_isFarther 93 = .ok (.if_icmp .ge 7, 3) := by decide +kernel
theorem dX5_isFarther_96 : decode cX5_isFarther 96 = .ok (.iconst 1, 1) := by decide +kernel
theorem dX5_isFarther_97 : decode cX5_isFarther 97 = .ok (.goto 4, 3) := by decide +kernel
theorem dX5_isFarther_100 : decode cX5_isFarther 100 = .ok (.iconst 0, 1) := by decide +kernel
theorem dX5_isFarther_101 : decode cX5_isFarther 101 = .ok (.ireturn, 1) := by decide +kernel
theorem dX5_disturb_0 : decode cX5_disturb 0 = .ok (.aload_n 0, 1) := by decide +kernel
theorem dX5_disturb_1 : decode cX5_disturb 1 = .ok (.getfield 33, 3) := by decide +kernel
theorem dX5_disturb_4 : decode cX5_disturb 4 = .ok (.getfield 70, 3) := by decide +kernel
theorem dX5_disturb_7 : decode cX5_disturb 7 = .ok (.ifCond .le 13, 3) := by decide +kernel
theorem dX5_disturb_10 : decode cX5_disturb 10 = .ok (.aload_n 0, 1) := by decide +kernel
theorem dX5_disturb_11 : decode cX5_disturb 11 = .ok (.getfield 33, 3) := by decide +kernel
theorem dX5_disturb_14 : decode cX5_disturb 14 = .ok (.getfield 61, 3) := by decide +kernel
theorem dX5_disturb_17 : decode cX5_disturb 17 = .ok (.ifCond .gt 4, 3) := by decide +kernel
theorem dX5_disturb_20 : decode cX5_disturb 20 = .ok (.return_, 1) := by decide +kernel
theorem dX5_disturb_21 : decode cX5_disturb 21 = .ok (.iload_n 1, 1) := by decide +kernel
theorem dX5_disturb_22 : decode cX5_disturb 22 = .ok (.bipush 64, 2) := by decide +kernel
theorem dX5_disturb_24 : decode cX5_disturb 24 = .ok (.idiv, 1) := by decide +kernel
theorem dX5_disturb_25 : decode cX5_disturb 25 = .ok (.aload_n 0, 1) := by decide +kernel
theorem dX5_disturb_26 : decode cX5_disturb 26 = .ok (.getfield 33, 3) := by decide +kernel
theorem dX5_disturb_29 : decode cX5_disturb 29 = .ok (.getfield 70, 3) := by decide +kernel
theorem dX5_disturb_32 : decode cX5_disturb 32 = .ok (.irem, 1) := by decide +kernel
theorem dX5_disturb_33 : decode cX5_disturb 33 = .ok (.istore_n 2, 1) := by decide +kernel
theorem dX5_disturb_34 : decode cX5_disturb 34 = .ok (.iload_n 1, 1) := by decide +kernel
theorem dX5_disturb_35 : decode cX5_disturb 35 = .ok (.iconst 4, 1) := by decide +kernel
theorem dX5_disturb_36 : decode cX5_disturb 36 = .ok (.idiv, 1) := by decide +kernel
theorem dX5_disturb_37 : decode cX5_disturb 37 = .ok (.aload_n 0, 1) := by decide +kernel
theorem dX5_disturb_38 : decode cX5_disturb 38 = .ok (.getfield 33, 3) := by decide +kernel
theorem dX5_disturb_41 : decode cX5_disturb 41 = .ok (.getfield 61, 3) := by decide +kernel
theorem dX5_disturb_44 : decode cX5_disturb 44 = .ok (.irem, 1) := by decide +kernel
theorem dX5_disturb_45 : decode cX5_disturb 45 = .ok (.istore_n 3, 1) := by decide +kernel
theorem dX5_disturb_46 : decode cX5_disturb 46 = .ok (.iload_n 1, 1) := by decide +kernel
theorem dX5_disturb_47 : decode cX5_disturb 47 = .ok (.iconst 3, 1) := by decide +kernel
theorem dX5_disturb_48 : decode cX5_disturb 48 = .ok (.irem, 1) := by decide +kernel
theorem dX5_disturb_49 : decode cX5_disturb 49 = .ok (.ifCond .ne 29, 3) := by decide +kernel
theorem dX5_disturb_52 : decode cX5_disturb 52 = .ok (.aload_n 0, 1) := by decide +kernel
theorem dX5_disturb_53 : decode cX5_disturb 53 = .ok (.getfield 9, 3) := by decide +kernel
theorem dX5_disturb_56 : decode cX5_disturb 56 = .ok (.iload_n 2, 1) := by decide +kernel
theorem dX5_disturb_57 : decode cX5_disturb 57 = .ok (.aload_n 0, 1) := by decide +kernel
theorem dX5_disturb_58 : decode cX5_disturb 58 = .ok (.getfield 9, 3) := by decide +kernel
theorem dX5_disturb_61 : decode cX5_disturb 61 = .ok (.iload_n 2, 1) := by decide +kernel
theorem dX5_disturb_62 : decode cX5_disturb 62 = .ok (.iaload, 1) := by decide +kernel
theorem dX5_disturb_63 : decode cX5_disturb 63 = .ok (.iload_n 3, 1) := by decide +kernel
theorem dX5_disturb_64 : decode cX5_disturb 64 = .ok (.iload_n 1, 1) := by decide +kernel
theorem dX5_disturb_65 : decode cX5_disturb 65 = .ok (.sipush 1024, 3) := by decide +kernel
theorem dX5_disturb_68 : decode cX5_disturb 68 = .ok (.idiv, 1) := by decide +kernel
theorem dX5_disturb_69 : decode cX5_disturb 69 = .ok (.iconst 4, 1) := by decide +kernel
theorem dX5_disturb_70 : decode cX5_disturb 70 = .ok (.irem, 1) := by decide +kernel
theorem dX5_disturb_71 : decode cX5_disturb 71 = .ok (.invokestatic 128, 3) := by decide +kernel
theorem dX5_disturb_74 : decode cX5_disturb 74 = .ok (.iastore, 1) := by decide +kernel
theorem dX5_disturb_75 : decode cX5_disturb 75 = .ok (.goto 23, 3) := by decide +kernel
theorem dX5_disturb_78 : decode cX5_disturb 78 = .ok (.iload_n 1, 1) := by decide +kernel
theorem dX5_disturb_79 : decode cX5_disturb 79 = .ok (.iconst 3, 1) := by decide +kernel
theorem dX5_disturb_80 : decode cX5_disturb 80 = .ok (.irem, 1) := by decide +kernel
theorem dX5_disturb_81 : decode cX5_disturb 81 = .ok (.iconst 1, 1) := by decide +kernel
theorem dX5_disturb_82 : decode cX5_disturb 82 = .ok (.if_icmp .ne 16, 3) := by decide +kernel
theorem dX5_disturb_85 : decode cX5_disturb 85 = .ok (.aload_n 0, 1) := by decide +kernel
theorem dX5_disturb_86 : decode cX5_disturb 86 = .ok (.getfield 18, 3) := by decide +kernel
theorem dX5_disturb_89 : decode cX5_disturb 89 = .ok (.iload_n 2, 1) := by decide +kernel
theorem dX5_disturb_90 : decode cX5_disturb 90 = .ok (.iload_n 1, 1) := by decide +kernel
theorem dX5_disturb_91 : decode cX5_disturb 91 = .ok (.sipush 4096, 3) := by decide +kernel
theorem dX5_disturb_94 : decode cX5_disturb 94 = .ok (.idiv, 1) := by decide +kernel
theorem dX5_disturb_95 : decode cX5_disturb 95 = .ok (.iconst 4, 1) := by decide +kernel
theorem dX5_disturb_96 : decode cX5_disturb 96 = .ok (.irem, 1) := by decide +kernel
theorem dX5_disturb_97 : decode cX5_disturb 97 = .ok (.iastore, 1) := by decide +kernel
theorem dX5_disturb_98 : decode cX5_disturb 98 = .ok (.return_, 1) := by decide +kernel
theorem dJ6_bitCount_0f7a4_0 : decode cJ6_bitCount_0f7a4 0 = .ok (.iload_n 0, 1) := by decide +kernel
theorem dJ6_bitCount_0f7a4_1 : decode cJ6_bitCount_0f7a4 1 = .ok (.iload_n 0, 1) := by decide +kernel
theorem dJ6_bitCount_0f7a4_2 : decode cJ6_bitCount_0f7a4 2 = .ok (.iconst 1, 1) := by decide +kernel
theorem dJ6_bitCount_0f7a4_3 : decode cJ6_bitCount_0f7a4 3 = .ok (.iushr, 1) := by decide +kernel
theorem dJ6_bitCount_0f7a4_4 : decode cJ6_bitCount_0f7a4 4 = .ok (.ldc_w 265, 3) := by decide +kernel
theorem dJ6_bitCount_0f7a4_7 : decode cJ6_bitCount_0f7a4 7 = .ok (.iand, 1) := by decide +kernel
theorem dJ6_bitCount_0f7a4_8 : decode cJ6_bitCount_0f7a4 8 = .ok (.isub, 1) := by decide +kernel
theorem dJ6_bitCount_0f7a4_9 : decode cJ6_bitCount_0f7a4 9 = .ok (.istore_n 0, 1) := by decide +kernel
theorem dJ6_bitCount_0f7a4_10 : decode cJ6_bitCount_0f7a4 10 = .ok (.iload_n 0, 1) := by decide +kernel
theorem dJ6_bitCount_0f7a4_11 : decode cJ6_bitCount_0f7a4 11 = .ok (.ldc_w 266, 3) := by decide +kernel
theorem dJ6_bitCount_0f7a4_14 : decode cJ6_bitCount_0f7a4 14 = .ok (.iand, 1) := by decide +kernel
theorem dJ6_bitCount_0f7a4_15 : decode cJ6_bitCount_0f7a4 15 = .ok (.iload_n 0, 1) := by decide +kernel
theorem dJ6_bitCount_0f7a4_16 : decode cJ6_bitCount_0f7a4 16 = .ok (.iconst 2, 1) := by decide +kernel
theorem dJ6_bitCount_0f7a4_17 : decode cJ6_bitCount_0f7a4 17 = .ok (.iushr, 1) := by decide +kernel
theorem dJ6_bitCount_0f7a4_18 : decode cJ6_bitCount_0f7a4 18 = .ok (.ldc_w 266, 3) := by decide +kernel
theorem dJ6_bitCount_0f7a4_21 : decode cJ6_bitCount_0f7a4 21 = .ok (.iand, 1) := by decide +kernel
theorem dJ6_bitCount_0f7a4_22 : decode cJ6_bitCount_0f7a4 22 = .ok (.iadd, 1) := by decide +kernel
theorem dJ6_bitCount_0f7a4_23 : decode cJ6_bitCount_0f7a4 23 = .ok (.istore_n 0, 1) := by decide +kernel
theorem dJ6_bitCount_0f7a4_24 : decode cJ6_bitCount_0f7a4 24 = .ok (.iload_n 0, 1) := by decide +kernel
theorem dJ6_bitCount_0f7a4_25 : decode cJ6_bitCount_0f7a4 25 = .ok (.iload_n 0, 1) := by decide +kernel
theorem dJ6_bitCount_0f7a4_26 : decode cJ6_bitCount_0f7a4 26 = .ok (.iconst 4, 1) := by decide +kernel
theorem dJ6_bitCount_0f7a4_27 : decode cJ6_bitCount_0f7a4 27 = .ok (.iushr, 1) := by decide +kernel
theorem dJ6_bitCount_0f7a4_28 : decode cJ6_bitCount_0f7a4 28 = .ok (.iadd, 1) := by decide +kernel
theorem dJ6_bitCount_0f7a4_29 : decode cJ6_bitCount_0f7a4 29 = .ok (.ldc_w 267, 3) := by decide +kernel
theorem dJ6_bitCount_0f7a4_32 : decode cJ6_bitCount_0f7a4 32 = .ok (.iand, 1) := by decide +kernel
theorem dJ6_bitCount_0f7a4_33 : decode cJ6_bitCount_0f7a4 33 = .ok (.istore_n 0, 1) := by decide +kernel
theorem dJ6_bitCount_0f7a4_34 : decode cJ6_bitCount_0f7a4 34 = .ok (.iload_n 0, 1) := by decide +kernel
theorem dJ6_bitCount_0f7a4_35 : decode cJ6_bitCount_0f7a4 35 = .ok (.iload_n 0, 1) := by decide +kernel
theorem dJ6_bitCount_0f7a4_36 : decode cJ6_bitCount_0f7a4 36 = .ok (.bipush 8, 2) := by decide +kernel
theorem dJ6_bitCount_0f7a4_38 : decode cJ6_bitCount_0f7a4 38 = .ok (.iushr, 1) := by decide +kernel
theorem dJ6_bitCount_0f7a4_39 : decode cJ6_bitCount_0f7a4 39 = .ok (.iadd, 1) := by decide +kernel
theorem dJ6_bitCount_0f7a4_40 : decode cJ6_bitCount_0f7a4 40 = .ok (.istore_n 0, 1) := by decide +kernel
theorem dJ6_bitCount_0f7a4_41 : decode cJ6_bitCount_0f7a4 41 = .ok (.iload_n 0, 1) := by decide +kernel
theorem dJ6_bitCount_0f7a4_42 : decode cJ6_bitCount_0f7a4 42 = .ok (.iload_n 0, 1) := by decide +kernel
theorem dJ6_bitCount_0f7a4_43 : decode cJ6_bitCount_0f7a4 43 = .ok (.bipush 16, 2) := by decide +kernel
theorem dJ6_bitCount_0f7a4_45 : decode cJ6_bitCount_0f7a4 45 = .ok (.iushr, 1) := by decide +kernel
theorem dJ6_bitCount_0f7a4_46 : decode cJ6_bitCount_0f7a4 46 = .ok (.iadd, 1) := by decide +kernel
theorem dJ6_bitCount_0f7a4_47 : decode cJ6_bitCount_0f7a4 47 = .ok (.istore_n 0, 1) := by decide +kernel
theorem dJ6_bitCount_0f7a4_48 : decode cJ6_bitCount_0f7a4 48 = .ok (.iload_n 0, 1) := by decide +kernel
theorem dJ6_bitCount_0f7a4_49 : decode cJ6_bitCount_0f7a4 49 = .ok (.bipush 63, 2) := by decide +kernel
theorem dJ6_bitCount_0f7a4_51 : decode cJ6_bitCount_0f7a4 51 = .ok (.iand, 1) := by decide +kernel
theorem dJ6_bitCount_0f7a4_52 : decode cJ6_bitCount_0f7a4 52 = .ok (.ireturn, 1) := by decide +kernel
theorem dJ7_fill_53178_0 : decode cJ7_fill_53178 0 = .ok (.iconst 0, 1) := by decide +kernel
theorem dJ7_fill_53178_1 : decode cJ7_fill_53178 1 = .ok (.istore_n 2, 1) := by decide +kernel
theorem dJ7_fill_53178_2 : decode cJ7_fill_53178 2 = .ok (.aload_n 0, 1) := by decide +kernel
theorem dJ7_fill_53178_3 : decode cJ7_fill_53178 3 = .ok (.arraylength, 1) := by decide +kernel
theorem dJ7_fill_53178_4 : decode cJ7_fill_53178 4 = .ok (.istore_n 3, 1) := by decide +kernel
theorem dJ7_fill_53178_5 : decode cJ7_fill_53178 5 = .ok (.iload_n 2, 1) := by decide +kernel
theorem dJ7_fill_53178_6 : decode cJ7_fill_53178 6 = .ok (.iload_n 3, 1) := by decide +kernel
theorem dJ7_fill_53178_7 : decode cJ7_fill_53178 7 = .ok (.if_icmp .ge 13, 3) := by decide +kernel
theorem dJ7_fill_53178_10 : decode cJ7_fill_53178 10 = .ok (.aload_n 0, 1) := by decide +kernel
theorem dJ7_fill_53178_11 : decode cJ7_fill_53178 11 = .ok (.iload_n 2, 1) := by decide +kernel
theorem dJ7_fill_53178_12 : decode cJ7_fill_53178 12 = .ok (.iload_n 1, 1) := by decide +kernel
theorem dJ7_fill_53178_13 : decode cJ7_fill_53178 13 = .ok (.iastore, 1) := by decide +kernel
theorem dJ7_fill_53178_14 : decode cJ7_fill_53178 14 = .ok (.iinc 2 1, 3) := by decide +kernel
theorem dJ7_fill_53178_17 : decode cJ7_fill_53178 17 = .ok (.goto (-12), 3) := by decide +kernel
theorem dJ7_fill_53178_20 : decode cJ7_fill_53178 20 = .ok (.return_, 1) := by decide +kernel
theorem dJ9_max_7cf53_0 : decode cJ9_max_7cf53 0 = .ok (.iload_n 0, 1) := by decide +kernel
theorem dJ9_max_7cf53_1 : decode cJ9_max_7cf53 1 = .ok (.iload_n 1, 1) := by decide +kernel
theorem dJ9_max_7cf53_2 : decode cJ9_max_7cf53 2 = .ok (.if_icmp .lt 7, 3) := by decide +kernel
theorem dJ9_max_7cf53_5 : decode cJ9_max_7cf53 5 = .ok (.iload_n 0, 1) := by decide +kernel
theorem dJ9_max_7cf53_6 : decode cJ9_max_7cf53 6 = .ok (.goto 4, 3) := by decide +kernel
theorem dJ9_max_7cf53_9 : decode cJ9_max_7cf53 9 = .ok (.iload_n 1, 1) := by decide +kernel
theorem dJ9_max_7cf53_10 : decode cJ9_max_7cf53 10 = .ok (.ireturn, 1) := by decide +kernel
theorem dJ9_min_7cf53_0 : decode cJ9_min_7cf53 0 = .ok (.iload_n 0, 1) := by decide +kernel
theorem dJ9_min_7cf53_1 : decode cJ9_min_7cf53 1 = .ok (.iload_n 1, 1) := by decide +kernel
theorem dJ9_min_7cf53_2 : decode cJ9_min_7cf53 2 = .ok (.if_icmp .gt 7, 3) := by decide +kernel
theorem dJ9_min_7cf53_5 : decode cJ9_min_7cf53 5 = .ok (.iload_n 0, 1) := by decide +kernel
theorem dJ9_min_7cf53_6 : decode cJ9_min_7cf53 6 = .ok (.goto 4, 3) := by decide +kernel
theorem dJ9_min_7cf53_9 : decode cJ9_min_7cf53 9 = .ok (.iload_n 1, 1) := by decide +kernel
theorem dJ9_min_7cf53_10 : decode cJ9_min_7cf53 10 = .ok (.ireturn, 1) := by decide +kernel
end

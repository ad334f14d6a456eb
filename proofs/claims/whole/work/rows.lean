section
-- ===== PART A: goes FIRST, ahead of the names: the tables' words, and 'selects' of the private methods out of them =====
/-- a private method of a class that the tables say can be made, by its rows of tables_1 -/
def lw_okq (q : MethodName × Nat) : Prop := (q.1.cls ≠ "java/lang/invoke/MethodHandle" ∧ q.1.cls ≠ "java/lang/invoke/VarHandle") ∧ Cond.instantiable q.1.cls q.2 ∈ tables_1 ∧ Cond.privateMethod q.1 ∈ tables_1 ∧ Cond.instanceMethod q.1 ∈ tables_1
theorem lw_p0 : lw_okq (⟨"DesiredStateKeeper$TextReader", "readHead", "()V"⟩, 14) := ⟨⟨by decide +kernel, by decide +kernel⟩, List.mem_of_getElem? (i := 30) (by decide +kernel), List.mem_of_getElem? (i := 296) (by decide +kernel), List.mem_of_getElem? (i := 297) (by decide +kernel)⟩
theorem lw_p1 : lw_okq (⟨"DesiredStateKeeper$TextReader", "readLetter", "(C)V"⟩, 14) := ⟨⟨by decide +kernel, by decide +kernel⟩, List.mem_of_getElem? (i := 30) (by decide +kernel), List.mem_of_getElem? (i := 300) (by decide +kernel), List.mem_of_getElem? (i := 301) (by decide +kernel)⟩
theorem lw_p2 : lw_okq (⟨"DesiredStateKeeper$TextReader", "readDigit", "(II)I"⟩, 14) := ⟨⟨by decide +kernel, by decide +kernel⟩, List.mem_of_getElem? (i := 30) (by decide +kernel), List.mem_of_getElem? (i := 304) (by decide +kernel), List.mem_of_getElem? (i := 305) (by decide +kernel)⟩
theorem lw_p3 : lw_okq (⟨"DesiredStateKeeper$TextReader", "readItems", "()V"⟩, 14) := ⟨⟨by decide +kernel, by decide +kernel⟩, List.mem_of_getElem? (i := 30) (by decide +kernel), List.mem_of_getElem? (i := 308) (by decide +kernel), List.mem_of_getElem? (i := 309) (by decide +kernel)⟩
theorem lw_p4 : lw_okq (⟨"DesiredStateKeeper$TextReader", "readItem", "(C)V"⟩, 14) := ⟨⟨by decide +kernel, by decide +kernel⟩, List.mem_of_getElem? (i := 30) (by decide +kernel), List.mem_of_getElem? (i := 315) (by decide +kernel), List.mem_of_getElem? (i := 316) (by decide +kernel)⟩
theorem lw_p5 : lw_okq (⟨"DesiredStateKeeper$TextReader", "readRule", "(I)V"⟩, 14) := ⟨⟨by decide +kernel, by decide +kernel⟩, List.mem_of_getElem? (i := 30) (by decide +kernel), List.mem_of_getElem? (i := 319) (by decide +kernel), List.mem_of_getElem? (i := 320) (by decide +kernel)⟩
theorem lw_p6 : lw_okq (⟨"DesiredStateKeeper$TextReader", "readDigitBut", "(II)I"⟩, 14) := ⟨⟨by decide +kernel, by decide +kernel⟩, List.mem_of_getElem? (i := 30) (by decide +kernel), List.mem_of_getElem? (i := 323) (by decide +kernel), List.mem_of_getElem? (i := 324) (by decide +kernel)⟩
theorem lw_p7 : lw_okq (⟨"DesiredStateKeeper$TextReader", "readVersion", "([I)V"⟩, 14) := ⟨⟨by decide +kernel, by decide +kernel⟩, List.mem_of_getElem? (i := 30) (by decide +kernel), List.mem_of_getElem? (i := 327) (by decide +kernel), List.mem_of_getElem? (i := 328) (by decide +kernel)⟩
theorem lw_p8 : lw_okq (⟨"DesiredStateKeeper$State", "isDrifted", "(II)Z"⟩, 10) := ⟨⟨by decide +kernel, by decide +kernel⟩, List.mem_of_getElem? (i := 177) (by decide +kernel), List.mem_of_getElem? (i := 361) (by decide +kernel), List.mem_of_getElem? (i := 362) (by decide +kernel)⟩
theorem lw_p9 : lw_okq (⟨"DesiredStateKeeper$State", "missingTo", "(II)I"⟩, 10) := ⟨⟨by decide +kernel, by decide +kernel⟩, List.mem_of_getElem? (i := 177) (by decide +kernel), List.mem_of_getElem? (i := 372) (by decide +kernel), List.mem_of_getElem? (i := 373) (by decide +kernel)⟩
theorem lw_p10 : lw_okq (⟨"DesiredStateKeeper$State", "isDriftedBelow", "(II)Z"⟩, 10) := ⟨⟨by decide +kernel, by decide +kernel⟩, List.mem_of_getElem? (i := 177) (by decide +kernel), List.mem_of_getElem? (i := 388) (by decide +kernel), List.mem_of_getElem? (i := 389) (by decide +kernel)⟩
theorem lw_p11 : lw_okq (⟨"DesiredStateKeeper$State", "brokenByWish", "(II)I"⟩, 10) := ⟨⟨by decide +kernel, by decide +kernel⟩, List.mem_of_getElem? (i := 177) (by decide +kernel), List.mem_of_getElem? (i := 392) (by decide +kernel), List.mem_of_getElem? (i := 393) (by decide +kernel)⟩
theorem lw_p12 : lw_okq (⟨"DesiredStateKeeper$State", "attempt", "(II)V"⟩, 10) := ⟨⟨by decide +kernel, by decide +kernel⟩, List.mem_of_getElem? (i := 177) (by decide +kernel), List.mem_of_getElem? (i := 401) (by decide +kernel), List.mem_of_getElem? (i := 402) (by decide +kernel)⟩
theorem lw_p13 : lw_okq (⟨"java/lang/Throwable", "fillInStackTrace", "(I)Ljava/lang/Throwable;"⟩, 6) := ⟨⟨by decide +kernel, by decide +kernel⟩, List.mem_of_getElem? (i := 455) (by decide +kernel), List.mem_of_getElem? (i := 453) (by decide +kernel), List.mem_of_getElem? (i := 454) (by decide +kernel)⟩
theorem lw_p14 : lw_okq (⟨"DesiredStateKeeper$RuleBook", "isBroken", "(II)Z"⟩, 4) := ⟨⟨by decide +kernel, by decide +kernel⟩, List.mem_of_getElem? (i := 97) (by decide +kernel), List.mem_of_getElem? (i := 525) (by decide +kernel), List.mem_of_getElem? (i := 526) (by decide +kernel)⟩
theorem lw_p15 : lw_okq (⟨"DesiredStateKeeper", "requireNode", "(I)V"⟩, 10) := ⟨⟨by decide +kernel, by decide +kernel⟩, List.mem_of_getElem? (i := 22) (by decide +kernel), List.mem_of_getElem? (i := 564) (by decide +kernel), List.mem_of_getElem? (i := 565) (by decide +kernel)⟩
def lw_privs_1 : List (MethodName × Nat) := [(⟨"DesiredStateKeeper$TextReader", "readHead", "()V"⟩, 14), (⟨"DesiredStateKeeper$TextReader", "readLetter", "(C)V"⟩, 14), (⟨"DesiredStateKeeper$TextReader", "readDigit", "(II)I"⟩, 14), (⟨"DesiredStateKeeper$TextReader", "readItems", "()V"⟩, 14), (⟨"DesiredStateKeeper$TextReader", "readItem", "(C)V"⟩, 14), (⟨"DesiredStateKeeper$TextReader", "readRule", "(I)V"⟩, 14), (⟨"DesiredStateKeeper$TextReader", "readDigitBut", "(II)I"⟩, 14), (⟨"DesiredStateKeeper$TextReader", "readVersion", "([I)V"⟩, 14), (⟨"DesiredStateKeeper$State", "isDrifted", "(II)Z"⟩, 10), (⟨"DesiredStateKeeper$State", "missingTo", "(II)I"⟩, 10), (⟨"DesiredStateKeeper$State", "isDriftedBelow", "(II)Z"⟩, 10), (⟨"DesiredStateKeeper$State", "brokenByWish", "(II)I"⟩, 10), (⟨"DesiredStateKeeper$State", "attempt", "(II)V"⟩, 10), (⟨"java/lang/Throwable", "fillInStackTrace", "(I)Ljava/lang/Throwable;"⟩, 6), (⟨"DesiredStateKeeper$RuleBook", "isBroken", "(II)Z"⟩, 4), (⟨"DesiredStateKeeper", "requireNode", "(I)V"⟩, 10)]
theorem lw_r1 : ∀ q ∈ lw_privs_1, lw_okq q := List.forall_mem_cons.mpr ⟨lw_p0, List.forall_mem_cons.mpr ⟨lw_p1, List.forall_mem_cons.mpr ⟨lw_p2, List.forall_mem_cons.mpr ⟨lw_p3, List.forall_mem_cons.mpr ⟨lw_p4, List.forall_mem_cons.mpr ⟨lw_p5, List.forall_mem_cons.mpr ⟨lw_p6, List.forall_mem_cons.mpr ⟨lw_p7, List.forall_mem_cons.mpr ⟨lw_p8, List.forall_mem_cons.mpr ⟨lw_p9, List.forall_mem_cons.mpr ⟨lw_p10, List.forall_mem_cons.mpr ⟨lw_p11, List.forall_mem_cons.mpr ⟨lw_p12, List.forall_mem_cons.mpr ⟨lw_p13, List.forall_mem_cons.mpr ⟨lw_p14, List.forall_mem_cons.mpr ⟨lw_p15, fun _ h => absurd h List.not_mem_nil⟩⟩⟩⟩⟩⟩⟩⟩⟩⟩⟩⟩⟩⟩⟩⟩
theorem lw_p16 : lw_okq (⟨"DesiredStateKeeper$State", "driftedOn", "(I)I"⟩, 10) := ⟨⟨by decide +kernel, by decide +kernel⟩, List.mem_of_getElem? (i := 177) (by decide +kernel), List.mem_of_getElem? (i := 588) (by decide +kernel), List.mem_of_getElem? (i := 589) (by decide +kernel)⟩
theorem lw_p17 : lw_okq (⟨"DesiredStateKeeper$State", "digestOf", "(I)I"⟩, 10) := ⟨⟨by decide +kernel, by decide +kernel⟩, List.mem_of_getElem? (i := 177) (by decide +kernel), List.mem_of_getElem? (i := 596) (by decide +kernel), List.mem_of_getElem? (i := 597) (by decide +kernel)⟩
theorem lw_p18 : lw_okq (⟨"DesiredStateKeeper", "requireComponent", "(I)V"⟩, 10) := ⟨⟨by decide +kernel, by decide +kernel⟩, List.mem_of_getElem? (i := 22) (by decide +kernel), List.mem_of_getElem? (i := 607) (by decide +kernel), List.mem_of_getElem? (i := 608) (by decide +kernel)⟩
theorem lw_p19 : lw_okq (⟨"DesiredStateKeeper", "requireRule", "(I)V"⟩, 10) := ⟨⟨by decide +kernel, by decide +kernel⟩, List.mem_of_getElem? (i := 22) (by decide +kernel), List.mem_of_getElem? (i := 620) (by decide +kernel), List.mem_of_getElem? (i := 621) (by decide +kernel)⟩
theorem lw_p20 : lw_okq (⟨"DesiredStateKeeper$State", "isAwaited", "(II)Z"⟩, 10) := ⟨⟨by decide +kernel, by decide +kernel⟩, List.mem_of_getElem? (i := 177) (by decide +kernel), List.mem_of_getElem? (i := 780) (by decide +kernel), List.mem_of_getElem? (i := 781) (by decide +kernel)⟩
theorem lw_p21 : lw_okq (⟨"DesiredStateKeeper$Ways", "aimAt", "(I)V"⟩, 6) := ⟨⟨by decide +kernel, by decide +kernel⟩, List.mem_of_getElem? (i := 152) (by decide +kernel), List.mem_of_getElem? (i := 802) (by decide +kernel), List.mem_of_getElem? (i := 803) (by decide +kernel)⟩
theorem lw_p22 : lw_okq (⟨"DesiredStateKeeper$Ways", "enqueue", "(II)V"⟩, 6) := ⟨⟨by decide +kernel, by decide +kernel⟩, List.mem_of_getElem? (i := 152) (by decide +kernel), List.mem_of_getElem? (i := 807) (by decide +kernel), List.mem_of_getElem? (i := 808) (by decide +kernel)⟩
theorem lw_p23 : lw_okq (⟨"DesiredStateKeeper$Ways", "distanceOf", "(I)I"⟩, 6) := ⟨⟨by decide +kernel, by decide +kernel⟩, List.mem_of_getElem? (i := 152) (by decide +kernel), List.mem_of_getElem? (i := 811) (by decide +kernel), List.mem_of_getElem? (i := 812) (by decide +kernel)⟩
theorem lw_p24 : lw_okq (⟨"DesiredStateKeeper$Ways", "reachFrom", "(I)V"⟩, 6) := ⟨⟨by decide +kernel, by decide +kernel⟩, List.mem_of_getElem? (i := 152) (by decide +kernel), List.mem_of_getElem? (i := 815) (by decide +kernel), List.mem_of_getElem? (i := 816) (by decide +kernel)⟩
theorem lw_p25 : lw_okq (⟨"DesiredStateKeeper$Ways", "bestChange", "(I)I"⟩, 6) := ⟨⟨by decide +kernel, by decide +kernel⟩, List.mem_of_getElem? (i := 152) (by decide +kernel), List.mem_of_getElem? (i := 833) (by decide +kernel), List.mem_of_getElem? (i := 834) (by decide +kernel)⟩
theorem lw_p26 : lw_okq (⟨"DesiredStateKeeper$RuleBook", "raisedByNeeds", "(I)I"⟩, 4) := ⟨⟨by decide +kernel, by decide +kernel⟩, List.mem_of_getElem? (i := 97) (by decide +kernel), List.mem_of_getElem? (i := 852) (by decide +kernel), List.mem_of_getElem? (i := 853) (by decide +kernel)⟩
theorem lw_p27 : lw_okq (⟨"DesiredStateKeeper$State", "isFarther", "(II)Z"⟩, 10) := ⟨⟨by decide +kernel, by decide +kernel⟩, List.mem_of_getElem? (i := 177) (by decide +kernel), List.mem_of_getElem? (i := 891) (by decide +kernel), List.mem_of_getElem? (i := 892) (by decide +kernel)⟩
theorem lw_p28 : lw_okq (⟨"DesiredStateKeeperModel", "refused", "(I)Z"⟩, 29) := ⟨⟨by decide +kernel, by decide +kernel⟩, List.mem_of_getElem? (i := 957) (by decide +kernel), List.mem_of_getElem? (i := 1063) (by decide +kernel), List.mem_of_getElem? (i := 1064) (by decide +kernel)⟩
theorem lw_p29 : lw_okq (⟨"DesiredStateKeeperModel", "readText", "()I"⟩, 29) := ⟨⟨by decide +kernel, by decide +kernel⟩, List.mem_of_getElem? (i := 957) (by decide +kernel), List.mem_of_getElem? (i := 1075) (by decide +kernel), List.mem_of_getElem? (i := 1076) (by decide +kernel)⟩
theorem lw_p30 : lw_okq (⟨"DesiredStateKeeperModel", "readHead", "()Z"⟩, 29) := ⟨⟨by decide +kernel, by decide +kernel⟩, List.mem_of_getElem? (i := 957) (by decide +kernel), List.mem_of_getElem? (i := 1079) (by decide +kernel), List.mem_of_getElem? (i := 1080) (by decide +kernel)⟩
theorem lw_p31 : lw_okq (⟨"DesiredStateKeeperModel", "passes", "(I)Z"⟩, 29) := ⟨⟨by decide +kernel, by decide +kernel⟩, List.mem_of_getElem? (i := 957) (by decide +kernel), List.mem_of_getElem? (i := 1083) (by decide +kernel), List.mem_of_getElem? (i := 1084) (by decide +kernel)⟩
def lw_privs_2 : List (MethodName × Nat) := [(⟨"DesiredStateKeeper$State", "driftedOn", "(I)I"⟩, 10), (⟨"DesiredStateKeeper$State", "digestOf", "(I)I"⟩, 10), (⟨"DesiredStateKeeper", "requireComponent", "(I)V"⟩, 10), (⟨"DesiredStateKeeper", "requireRule", "(I)V"⟩, 10), (⟨"DesiredStateKeeper$State", "isAwaited", "(II)Z"⟩, 10), (⟨"DesiredStateKeeper$Ways", "aimAt", "(I)V"⟩, 6), (⟨"DesiredStateKeeper$Ways", "enqueue", "(II)V"⟩, 6), (⟨"DesiredStateKeeper$Ways", "distanceOf", "(I)I"⟩, 6), (⟨"DesiredStateKeeper$Ways", "reachFrom", "(I)V"⟩, 6), (⟨"DesiredStateKeeper$Ways", "bestChange", "(I)I"⟩, 6), (⟨"DesiredStateKeeper$RuleBook", "raisedByNeeds", "(I)I"⟩, 4), (⟨"DesiredStateKeeper$State", "isFarther", "(II)Z"⟩, 10), (⟨"DesiredStateKeeperModel", "refused", "(I)Z"⟩, 29), (⟨"DesiredStateKeeperModel", "readText", "()I"⟩, 29), (⟨"DesiredStateKeeperModel", "readHead", "()Z"⟩, 29), (⟨"DesiredStateKeeperModel", "passes", "(I)Z"⟩, 29)]
theorem lw_r2 : ∀ q ∈ lw_privs_2, lw_okq q := List.forall_mem_cons.mpr ⟨lw_p16, List.forall_mem_cons.mpr ⟨lw_p17, List.forall_mem_cons.mpr ⟨lw_p18, List.forall_mem_cons.mpr ⟨lw_p19, List.forall_mem_cons.mpr ⟨lw_p20, List.forall_mem_cons.mpr ⟨lw_p21, List.forall_mem_cons.mpr ⟨lw_p22, List.forall_mem_cons.mpr ⟨lw_p23, List.forall_mem_cons.mpr ⟨lw_p24, List.forall_mem_cons.mpr ⟨lw_p25, List.forall_mem_cons.mpr ⟨lw_p26, List.forall_mem_cons.mpr ⟨lw_p27, List.forall_mem_cons.mpr ⟨lw_p28, List.forall_mem_cons.mpr ⟨lw_p29, List.forall_mem_cons.mpr ⟨lw_p30, List.forall_mem_cons.mpr ⟨lw_p31, fun _ h => absurd h List.not_mem_nil⟩⟩⟩⟩⟩⟩⟩⟩⟩⟩⟩⟩⟩⟩⟩⟩
theorem lw_p32 : lw_okq (⟨"DesiredStateKeeperModel", "digit", "(III)I"⟩, 29) := ⟨⟨by decide +kernel, by decide +kernel⟩, List.mem_of_getElem? (i := 957) (by decide +kernel), List.mem_of_getElem? (i := 1087) (by decide +kernel), List.mem_of_getElem? (i := 1088) (by decide +kernel)⟩
theorem lw_p33 : lw_okq (⟨"DesiredStateKeeperModel", "readItem", "()Z"⟩, 29) := ⟨⟨by decide +kernel, by decide +kernel⟩, List.mem_of_getElem? (i := 957) (by decide +kernel), List.mem_of_getElem? (i := 1094) (by decide +kernel), List.mem_of_getElem? (i := 1095) (by decide +kernel)⟩
theorem lw_p34 : lw_okq (⟨"DesiredStateKeeperModel", "readRule", "(I)Z"⟩, 29) := ⟨⟨by decide +kernel, by decide +kernel⟩, List.mem_of_getElem? (i := 957) (by decide +kernel), List.mem_of_getElem? (i := 1098) (by decide +kernel), List.mem_of_getElem? (i := 1099) (by decide +kernel)⟩
theorem lw_p35 : lw_okq (⟨"DesiredStateKeeperModel", "readVersion", "(I)Z"⟩, 29) := ⟨⟨by decide +kernel, by decide +kernel⟩, List.mem_of_getElem? (i := 957) (by decide +kernel), List.mem_of_getElem? (i := 1102) (by decide +kernel), List.mem_of_getElem? (i := 1103) (by decide +kernel)⟩
theorem lw_p36 : lw_okq (⟨"DesiredStateKeeperModel", "calmNodes", "([I)I"⟩, 29) := ⟨⟨by decide +kernel, by decide +kernel⟩, List.mem_of_getElem? (i := 957) (by decide +kernel), List.mem_of_getElem? (i := 1121) (by decide +kernel), List.mem_of_getElem? (i := 1122) (by decide +kernel)⟩
theorem lw_p37 : lw_okq (⟨"DesiredStateKeeperModel", "drifted", "([II)I"⟩, 29) := ⟨⟨by decide +kernel, by decide +kernel⟩, List.mem_of_getElem? (i := 957) (by decide +kernel), List.mem_of_getElem? (i := 1125) (by decide +kernel), List.mem_of_getElem? (i := 1126) (by decide +kernel)⟩
theorem lw_p38 : lw_okq (⟨"DesiredStateKeeperModel", "isDrifted", "([III)Z"⟩, 29) := ⟨⟨by decide +kernel, by decide +kernel⟩, List.mem_of_getElem? (i := 957) (by decide +kernel), List.mem_of_getElem? (i := 1129) (by decide +kernel), List.mem_of_getElem? (i := 1130) (by decide +kernel)⟩
theorem lw_p39 : lw_okq (⟨"DesiredStateKeeperModel", "isNode", "(I)Z"⟩, 29) := ⟨⟨by decide +kernel, by decide +kernel⟩, List.mem_of_getElem? (i := 957) (by decide +kernel), List.mem_of_getElem? (i := 1137) (by decide +kernel), List.mem_of_getElem? (i := 1138) (by decide +kernel)⟩
theorem lw_p40 : lw_okq (⟨"DesiredStateKeeperModel", "tell", "([III)I"⟩, 29) := ⟨⟨by decide +kernel, by decide +kernel⟩, List.mem_of_getElem? (i := 957) (by decide +kernel), List.mem_of_getElem? (i := 1142) (by decide +kernel), List.mem_of_getElem? (i := 1143) (by decide +kernel)⟩
theorem lw_p41 : lw_okq (⟨"DesiredStateKeeperModel", "codeOf", "([III)I"⟩, 29) := ⟨⟨by decide +kernel, by decide +kernel⟩, List.mem_of_getElem? (i := 957) (by decide +kernel), List.mem_of_getElem? (i := 1149) (by decide +kernel), List.mem_of_getElem? (i := 1150) (by decide +kernel)⟩
theorem lw_p42 : lw_okq (⟨"DesiredStateKeeperModel", "broken", "(I)I"⟩, 29) := ⟨⟨by decide +kernel, by decide +kernel⟩, List.mem_of_getElem? (i := 957) (by decide +kernel), List.mem_of_getElem? (i := 1153) (by decide +kernel), List.mem_of_getElem? (i := 1154) (by decide +kernel)⟩
theorem lw_p43 : lw_okq (⟨"DesiredStateKeeperModel", "digestOf", "([II)I"⟩, 29) := ⟨⟨by decide +kernel, by decide +kernel⟩, List.mem_of_getElem? (i := 957) (by decide +kernel), List.mem_of_getElem? (i := 1160) (by decide +kernel), List.mem_of_getElem? (i := 1161) (by decide +kernel)⟩
theorem lw_p44 : lw_okq (⟨"DesiredStateKeeperModel", "isPart", "(I)Z"⟩, 29) := ⟨⟨by decide +kernel, by decide +kernel⟩, List.mem_of_getElem? (i := 957) (by decide +kernel), List.mem_of_getElem? (i := 1168) (by decide +kernel), List.mem_of_getElem? (i := 1169) (by decide +kernel)⟩
theorem lw_p45 : lw_okq (⟨"DesiredStateKeeperModel", "change", "(II)I"⟩, 29) := ⟨⟨by decide +kernel, by decide +kernel⟩, List.mem_of_getElem? (i := 957) (by decide +kernel), List.mem_of_getElem? (i := 1193) (by decide +kernel), List.mem_of_getElem? (i := 1194) (by decide +kernel)⟩
theorem lw_p46 : lw_okq (⟨"DesiredStateKeeperModel", "note", "()V"⟩, 29) := ⟨⟨by decide +kernel, by decide +kernel⟩, List.mem_of_getElem? (i := 957) (by decide +kernel), List.mem_of_getElem? (i := 1197) (by decide +kernel), List.mem_of_getElem? (i := 1198) (by decide +kernel)⟩
theorem lw_p47 : lw_okq (⟨"DesiredStateKeeperModel", "tickOn", "([I)V"⟩, 29) := ⟨⟨by decide +kernel, by decide +kernel⟩, List.mem_of_getElem? (i := 957) (by decide +kernel), List.mem_of_getElem? (i := 1240) (by decide +kernel), List.mem_of_getElem? (i := 1241) (by decide +kernel)⟩
def lw_privs_3 : List (MethodName × Nat) := [(⟨"DesiredStateKeeperModel", "digit", "(III)I"⟩, 29), (⟨"DesiredStateKeeperModel", "readItem", "()Z"⟩, 29), (⟨"DesiredStateKeeperModel", "readRule", "(I)Z"⟩, 29), (⟨"DesiredStateKeeperModel", "readVersion", "(I)Z"⟩, 29), (⟨"DesiredStateKeeperModel", "calmNodes", "([I)I"⟩, 29), (⟨"DesiredStateKeeperModel", "drifted", "([II)I"⟩, 29), (⟨"DesiredStateKeeperModel", "isDrifted", "([III)Z"⟩, 29), (⟨"DesiredStateKeeperModel", "isNode", "(I)Z"⟩, 29), (⟨"DesiredStateKeeperModel", "tell", "([III)I"⟩, 29), (⟨"DesiredStateKeeperModel", "codeOf", "([III)I"⟩, 29), (⟨"DesiredStateKeeperModel", "broken", "(I)I"⟩, 29), (⟨"DesiredStateKeeperModel", "digestOf", "([II)I"⟩, 29), (⟨"DesiredStateKeeperModel", "isPart", "(I)Z"⟩, 29), (⟨"DesiredStateKeeperModel", "change", "(II)I"⟩, 29), (⟨"DesiredStateKeeperModel", "note", "()V"⟩, 29), (⟨"DesiredStateKeeperModel", "tickOn", "([I)V"⟩, 29)]
theorem lw_r3 : ∀ q ∈ lw_privs_3, lw_okq q := List.forall_mem_cons.mpr ⟨lw_p32, List.forall_mem_cons.mpr ⟨lw_p33, List.forall_mem_cons.mpr ⟨lw_p34, List.forall_mem_cons.mpr ⟨lw_p35, List.forall_mem_cons.mpr ⟨lw_p36, List.forall_mem_cons.mpr ⟨lw_p37, List.forall_mem_cons.mpr ⟨lw_p38, List.forall_mem_cons.mpr ⟨lw_p39, List.forall_mem_cons.mpr ⟨lw_p40, List.forall_mem_cons.mpr ⟨lw_p41, List.forall_mem_cons.mpr ⟨lw_p42, List.forall_mem_cons.mpr ⟨lw_p43, List.forall_mem_cons.mpr ⟨lw_p44, List.forall_mem_cons.mpr ⟨lw_p45, List.forall_mem_cons.mpr ⟨lw_p46, List.forall_mem_cons.mpr ⟨lw_p47, fun _ h => absurd h List.not_mem_nil⟩⟩⟩⟩⟩⟩⟩⟩⟩⟩⟩⟩⟩⟩⟩⟩
theorem lw_p48 : lw_okq (⟨"DesiredStateKeeperModel", "nextOf", "([II)I"⟩, 29) := ⟨⟨by decide +kernel, by decide +kernel⟩, List.mem_of_getElem? (i := 957) (by decide +kernel), List.mem_of_getElem? (i := 1244) (by decide +kernel), List.mem_of_getElem? (i := 1245) (by decide +kernel)⟩
theorem lw_p49 : lw_okq (⟨"DesiredStateKeeperModel", "stateOf", "([III)I"⟩, 29) := ⟨⟨by decide +kernel, by decide +kernel⟩, List.mem_of_getElem? (i := 957) (by decide +kernel), List.mem_of_getElem? (i := 1248) (by decide +kernel), List.mem_of_getElem? (i := 1249) (by decide +kernel)⟩
theorem lw_p50 : lw_okq (⟨"DesiredStateKeeperModel", "waitsForRings", "([III)Z"⟩, 29) := ⟨⟨by decide +kernel, by decide +kernel⟩, List.mem_of_getElem? (i := 957) (by decide +kernel), List.mem_of_getElem? (i := 1255) (by decide +kernel), List.mem_of_getElem? (i := 1256) (by decide +kernel)⟩
theorem lw_p51 : lw_okq (⟨"DesiredStateKeeperModel", "newlyBroken", "([IIII)I"⟩, 29) := ⟨⟨by decide +kernel, by decide +kernel⟩, List.mem_of_getElem? (i := 957) (by decide +kernel), List.mem_of_getElem? (i := 1259) (by decide +kernel), List.mem_of_getElem? (i := 1260) (by decide +kernel)⟩
theorem lw_p52 : lw_okq (⟨"DesiredStateKeeperModel", "layWays", "(I)V"⟩, 29) := ⟨⟨by decide +kernel, by decide +kernel⟩, List.mem_of_getElem? (i := 957) (by decide +kernel), List.mem_of_getElem? (i := 1303) (by decide +kernel), List.mem_of_getElem? (i := 1304) (by decide +kernel)⟩
theorem lw_p53 : lw_okq (⟨"DesiredStateKeeperModel", "firstStep", "(I)I"⟩, 29) := ⟨⟨by decide +kernel, by decide +kernel⟩, List.mem_of_getElem? (i := 957) (by decide +kernel), List.mem_of_getElem? (i := 1311) (by decide +kernel), List.mem_of_getElem? (i := 1312) (by decide +kernel)⟩
theorem lw_p54 : lw_okq (⟨"DesiredStateKeeperModel", "layNeeds", "(II)V"⟩, 29) := ⟨⟨by decide +kernel, by decide +kernel⟩, List.mem_of_getElem? (i := 957) (by decide +kernel), List.mem_of_getElem? (i := 1319) (by decide +kernel), List.mem_of_getElem? (i := 1320) (by decide +kernel)⟩
theorem lw_p55 : lw_okq (⟨"DesiredStateKeeperModel", "distance", "(I)I"⟩, 29) := ⟨⟨by decide +kernel, by decide +kernel⟩, List.mem_of_getElem? (i := 957) (by decide +kernel), List.mem_of_getElem? (i := 1336) (by decide +kernel), List.mem_of_getElem? (i := 1337) (by decide +kernel)⟩
theorem lw_p56 : lw_okq (⟨"DesiredStateKeeperModel", "command", "(I)Z"⟩, 29) := ⟨⟨by decide +kernel, by decide +kernel⟩, List.mem_of_getElem? (i := 957) (by decide +kernel), List.mem_of_getElem? (i := 1348) (by decide +kernel), List.mem_of_getElem? (i := 1349) (by decide +kernel)⟩
def lw_privs_4 : List (MethodName × Nat) := [(⟨"DesiredStateKeeperModel", "nextOf", "([II)I"⟩, 29), (⟨"DesiredStateKeeperModel", "stateOf", "([III)I"⟩, 29), (⟨"DesiredStateKeeperModel", "waitsForRings", "([III)Z"⟩, 29), (⟨"DesiredStateKeeperModel", "newlyBroken", "([IIII)I"⟩, 29), (⟨"DesiredStateKeeperModel", "layWays", "(I)V"⟩, 29), (⟨"DesiredStateKeeperModel", "firstStep", "(I)I"⟩, 29), (⟨"DesiredStateKeeperModel", "layNeeds", "(II)V"⟩, 29), (⟨"DesiredStateKeeperModel", "distance", "(I)I"⟩, 29), (⟨"DesiredStateKeeperModel", "command", "(I)Z"⟩, 29)]
theorem lw_r4 : ∀ q ∈ lw_privs_4, lw_okq q := List.forall_mem_cons.mpr ⟨lw_p48, List.forall_mem_cons.mpr ⟨lw_p49, List.forall_mem_cons.mpr ⟨lw_p50, List.forall_mem_cons.mpr ⟨lw_p51, List.forall_mem_cons.mpr ⟨lw_p52, List.forall_mem_cons.mpr ⟨lw_p53, List.forall_mem_cons.mpr ⟨lw_p54, List.forall_mem_cons.mpr ⟨lw_p55, List.forall_mem_cons.mpr ⟨lw_p56, fun _ h => absurd h List.not_mem_nil⟩⟩⟩⟩⟩⟩⟩⟩⟩
def lw_privs : List (MethodName × Nat) := lw_privs_1 ++ (lw_privs_2 ++ (lw_privs_3 ++ (lw_privs_4)))
def lw_tbl : List Cond := k2_sels lw_privs ++ tables_1
theorem lw_privs_ok : ∀ q ∈ lw_privs, lw_okq q := by
  show ∀ q ∈ lw_privs_1 ++ (lw_privs_2 ++ (lw_privs_3 ++ (lw_privs_4))), lw_okq q
  exact List.forall_mem_append.mpr ⟨lw_r1, List.forall_mem_append.mpr ⟨lw_r2, List.forall_mem_append.mpr ⟨lw_r3, lw_r4⟩⟩⟩
end
section
/-! ===== BEGIN words of one list among another's, by their places ===== -/
theorem goodIn_r {big : List Cond} (ws : List Cond) (ps : List Nat) (hp : ws = ps.filterMap (fun i => big[i]?)) (h : ws.all goodWord = true) : GoodIn big ws := by
  intro w hw
  have h1 := List.all_eq_true.mp h w hw
  rw [hp] at hw
  obtain ⟨i, -, hi⟩ := List.mem_filterMap.mp hw
  have hm : w ∈ big := by first | exact List.mem_of_getElem? hi | exact List.getElem?_mem hi
  exact ⟨hm, good_of_word h1⟩
theorem goodIn_app {big a b : List Cond} (ha : GoodIn big a) (hb : GoodIn big b) : GoodIn big (a ++ b) := fun w h => (List.mem_append.mp h).elim (ha w) (hb w)
theorem goodIn_ca {big a b : List Cond} {c : Cond} (ha : GoodIn big (c :: a)) (hb : GoodIn big b) : GoodIn big (c :: (a ++ b)) := fun w h => (List.mem_cons.mp h).elim (fun e => ha w (List.mem_cons.mpr (Or.inl e))) (fun h => (List.mem_append.mp h).elim (fun h => ha w (List.mem_cons.mpr (Or.inr h))) (hb w))
theorem goodIn_sub {big ws : List Cond} (hm : ∀ w ∈ ws, w ∈ big) (h : ws.all goodWord = true) : GoodIn big ws := fun w hw => ⟨hm w hw, good_of_word (List.all_eq_true.mp h w hw)⟩
/-! ===== END ===== -/

/-! ===== BEGIN exceptions that leave a method, and their catching by the caller (launches without stack traces) ===== -/
section VXA
/-! The laws vx_back, vx_callV, vx_callS, vx_callSW, vx_throw0, vx_throwS follow proofs of the library, with one case more: JvmDerived/Free/Laws.lean (Back.of_free), Shelf42/LK1.lean (callV, callS), Shelf/KitTraced.lean (throwNew0V, throwNewS). -/
/-- where a method has thrown q: the class by its name, the cell, what was written, the world -/
def vx_T (XC : String → State → State → Prop) (st : State) (q : Addr) (t : State) (mc ms : Nat) (free : Addr → Prop) : Prop :=
  ∃ (E : String) (ce : Cell) (L : List Loc), XC E st t ∧ t.heap[q]? = some ce ∧ ce.vm = .none ∧ st.vm.findClass E = some ce.cls ∧ st.WarmedH t.vm ∧ st.sameButNew ({ t with vm := st.vm } : State) L mc ms ∧ ∀ z ∈ L, free z.base
def vx_Q (Qc : Array Value → State → Outcome → State → Prop) (XC : String → State → State → Prop) (mc ms : Nat) (free : Addr → Prop) : Array Value → State → Outcome → State → Prop := fun a st o t =>
  (Qc a st o t ∧ ∃ L, FrameEnd st o t L mc ms ∧ ∀ q ∈ L, free q.base) ∨ ∃ q, o = .threw q ∧ vx_T XC st q t mc ms free
/-- a callee that returns or throws -/
def vx_Met (l : Launch) (y : MethodName) (ws : List Cond) (rm : Room) (Pc : Array Value → State → Prop) (Qc : Array Value → State → Outcome → State → Prop) (XC : String → State → State → Prop) (mc ms : Nat) (free : Addr → Prop) : Prop :=
  MetFree l y (headSpec ws rm) Pc (fun _ _ _ _ _ => True) (vx_Q Qc XC mc ms free)
def vx_Post (XC : String → State → State → Prop) (mc ms : Nat) (free : Addr → Prop) : Pt → Array Value → Addr → Pt → Prop := fun A a q B =>
  ∃ (g : JFrame) (mk : MethodId) (t : State) (L : List Loc) (E : String) (ce : Cell), B.U.heap = t.heap ∧ B.U.vm = t.vm ∧ XC E (A.U.calling g mk a) t ∧ t.heap[q]? = some ce ∧ ce.vm = .none ∧ A.U.vm.findClass E = some ce.cls ∧ B.locs = A.locs ++ L ∧ (∀ z ∈ L, free z.base) ∧ B.cells = A.cells + mc ∧ B.slots = A.slots + ms
def vx_Back (l : Launch) (R : Room) (p : Program) (e : Env) (below : List Frame) (s : State) (sargs : Array Value) (y : MethodName) (len W9 : Nat)
    (Pre : Pt → Array Value → Prop) (Post : Pt → Array Value → Option Value → Pt → Prop) (PostX : Pt → Array Value → Addr → Pt → Prop) : Prop :=
  ∀ (m : MethodId) (meth : Method) (c : Code) (A : Pt) (g : JFrame) (ig : Instr) (mk : MethodId) (a : Array Value),
    Stand p l e R s m sargs below meth c A.U A.locs A.cells A.slots → g.method = m → g.locals.size = c.maxLocals → decode c.code g.pc = .ok (ig, len) →
    2 * g.monitorRoom + (g.stack.map fun v => v.category).sum ≤ W9 → A.U.methodNamed? y = some mk → Pre A a →
    (∃ (v : Option Value) (B : Pt), Stand p l e R s m sargs below meth c B.U B.locs B.cells B.slots ∧ Post A a v B ∧
      Steps p.tables e below (doInvoke e (A.U.setTop g) [] mk a).1 (B.U.setTop { g with pc := g.pc + len, stack := v.toList ++ g.stack })) ∨
    (∃ (q : Addr) (B : Pt), Stand p l e R s m sargs below meth c B.U B.locs B.cells B.slots ∧ PostX A a q B ∧
      Steps p.tables e below (doInvoke e (A.U.setTop g) [] mk a).1 ((B.U.setTop g).pushFrame (.throwing q)))
section Payer
variable {l : Launch} {R : Room} {p : Program} {e : Env} {below : List Frame} {s : State} {sargs : Array Value} {y : MethodName} {len W9 : Nat}
theorem vx_back {ws : List Cond} {rm : Room} {Pc : Array Value → State → Prop} {Qc : Array Value → State → Outcome → State → Prop} {XC : String → State → State → Prop} {mc ms : Nat} {free : Addr → Prop} {bytes : ByteArray} {maxL : Nat} {ret : Option FieldType}
    (hM : vx_Met l y ws rm Pc Qc XC mc ms free) (hblind : FrameBlind Pc) (hrc : rm.cells = mc) (hrs : rm.slots = ms)
    (hframes : rm.frames + 1 ≤ R.frames) (hlocals : W9 + (maxL + 11) + rm.locals ≤ R.locals)
    (hws : ∀ w ∈ ws, ∀ a' U, s.WarmedH U.vm → w.before a' U = true) (hcode : Cond.code y bytes maxL ret ∈ ws) (hinit : ∀ a' U, s.WarmedH U.vm → (Cond.initialized y.cls).before a' U = true) :
    vx_Back l R p e below s sargs y len W9 (PreOf R mc ms Pc) (PostOf Qc mc ms free) (vx_Post XC mc ms free) := by
  intro m meth c A g ig mk a X hg hsize hdg hW hn hp
  have h1 : (headSpec ws rm).pre.before a A.U = true := atoms_intro fun w hw => hws w hw _ _ X.warmed
  have h2 : (Cond.code y bytes maxL ret).before a A.U = true := hws _ hcode _ _ X.warmed
  have h3 : (Cond.initialized y.cls).before a A.U = true := hinit _ _ X.warmed
  have h4 : A.cells + (headSpec ws rm).room.cells ≤ R.cells := by rw [show (headSpec ws rm).room.cells = mc from hrc]; exact hp.1
  have h5 : A.slots + (headSpec ws rm).room.slots ≤ R.slots := by rw [show (headSpec ws rm).room.slots = ms from hrs]; exact hp.2.1
  have hPc : Pc a (A.U.calling g mk a) := hblind _ _ _ _ hp.2.2
  obtain ⟨U, Ls, c0, s0⟩ := A
  dsimp only [Pt.U, Pt.locs, Pt.cells, Pt.slots] at h1 h2 h3 h4 h5 X hn hPc ⊢
  obtain ⟨methY, cY, hmY, hcY, -, hlY, -, -, -, -⟩ := Cond.code_spec hn h2
  obtain ⟨kY, hkY, -⟩ := className_of_methodNamed hn
  have hinitY : kY.init = .initialized := Cond.initialized_spec (findClass_of_methodNamed hn) hkY h3
  have h : At U g.method c below := by rw [hg]; exact X.here
  have hlocals9 : W9 + (maxL + 11) + (headSpec ws rm).room.locals ≤ R.locals := hlocals
  have happ : (headSpec ws rm).appliesLoose y e.platform (U.calling g mk a) = true :=
    Spec.appliesLoose_calling (g := g) h hdg hn hkY hinitY
      (X.room_calling (g := g) (R' := (headSpec ws rm).room) hsize hmY hcY hframes (by rw [hlY]; omega) h4 h5) h1
  obtain ⟨mid, hmid⟩ := h.above
  have hfr : (U.setTop g).frames = (.java g :: mid) ++ below := by rw [State.frames_setTop' g h.top, hmid]; rfl
  obtain ⟨o, s₂, hsteps, -, hend, hq⟩ := Steps.callFree hM p X.admits X.cas X.clock (acts := []) hfr happ hPc trivial
  have hq' : vx_Q Qc XC mc ms free a (U.calling g mk a) o s₂ := hq
  rw [State.frames_setTop' g h.top] at hend
  obtain ⟨g₀, hg0⟩ := Option.isSome_iff_exists.mp h.top
  obtain ⟨r, hr⟩ := State.topJava?_eq_some.mp hg0
  have hr' : (({ U with heap := s₂.heap, slotsUsed := s₂.slotsUsed } : State).setVm s₂.vm).frames = .java g₀ :: r := hr
  rcases hq' with ⟨hqc, L, hfe, hL⟩ | ⟨q, rfl, E, ce, L, hx, hce, hcv, hcl, hW₂, hsm, hL⟩
  · obtain ⟨⟨v, rfl⟩, hW₂, e2, q2, q3, q4, q5, q6⟩ := id hfe
    have e3 : s₂ = ({ (U.calling g mk a).setFrames s₂.frames with heap := s₂.heap, slotsUsed := s₂.slotsUsed } : State).setVm s₂.vm := by
      have : s₂ = ({ s₂ with vm := (U.calling g mk a).vm } : State).setVm s₂.vm := rfl
      rw [e2] at this
      exact this
    obtain ⟨c₂, i₂, len₂, hc₂, hd₂, hf₂⟩ := hend
    have hW' : U.WarmedH s₂.vm := hW₂
    have hcc : c₂ = c := by
      have h1 : s₂.code? g.method = U.code? g.method := by
        rw [State.code?_eq, State.code?_eq, hW'.alike.method?]
      exact Option.some.inj (hc₂.symm.trans (h1.trans h.code))
    subst hcc
    have hlen : len₂ = len := by rw [hdg] at hd₂; cases hd₂; rfl
    subst hlen
    have hs₂ : s₂ = (({ U with heap := s₂.heap, slotsUsed := s₂.slotsUsed } : State).setVm s₂.vm).setTop { g with pc := g.pc + len₂, stack := v.toList ++ g.stack } := by
      refine e3.trans ?_
      rw [hf₂, State.calling_eq h.top, State.setFrames_setFrames, State.setTop_of_frames _ hr', hr]
      rfl
    have hsame : U.sameButNew ({ U with heap := s₂.heap, slotsUsed := s₂.slotsUsed } : State) L mc ms := by
      refine ⟨?_, q2, q3, q4, q5, q6⟩
      obtain ⟨t, ht, -⟩ := State.frames_cons hr
      show ({ U with heap := s₂.heap, slotsUsed := s₂.slotsUsed } : State) = { U.setFrames U.frames with heap := s₂.heap, slotsUsed := s₂.slotsUsed }
      rw [State.setFrames_self ht]
    subst hg
    refine Or.inl ⟨v, ⟨(({ U with heap := s₂.heap, slotsUsed := s₂.slotsUsed } : State).setVm s₂.vm), Ls ++ L, c0 + mc, s0 + ms⟩,
      ⟨X.admits, X.cas, X.clock, X.frames, X.room, X.hears, X.method, X.code, (X.here.setHeapUsed s₂.heap s₂.slotsUsed).setVm hW'.alike, X.tail, State.WarmedH.trans X.warmed hW', X.limits, X.bytes, X.same.trans (hsame.setVm s.vm)⟩,
      ⟨g, mk, s₂, L, rfl, rfl, hqc, rfl, hL, rfl, rfl⟩, ?_⟩
    show Steps p.tables e below _ ((({ U with heap := s₂.heap, slotsUsed := s₂.slotsUsed } : State).setVm s₂.vm).setTop { g with pc := g.pc + len₂, stack := v.toList ++ g.stack })
    rw [← hs₂]
    exact hsteps
  · obtain ⟨e2, q2, q3, q4, q5, q6⟩ := id hsm
    have e3 : s₂ = ({ (U.calling g mk a).setFrames s₂.frames with heap := s₂.heap, slotsUsed := s₂.slotsUsed } : State).setVm s₂.vm := by
      have : s₂ = ({ s₂ with vm := (U.calling g mk a).vm } : State).setVm s₂.vm := rfl
      rw [e2] at this
      exact this
    have hf₂ : s₂.frames = .throwing q :: .java g :: U.frames.tail := hend
    have hW' : U.WarmedH s₂.vm := hW₂
    have hs₂ : s₂ = ((({ U with heap := s₂.heap, slotsUsed := s₂.slotsUsed } : State).setVm s₂.vm).setTop g).pushFrame (.throwing q) := by
      refine e3.trans ?_
      rw [hf₂, State.calling_eq h.top, State.setFrames_setFrames, State.pushFrame, State.frames_setTop _ hr', State.setTop_of_frames _ hr', State.setFrames_setFrames, hr]
      rfl
    have hsame : U.sameButNew ({ U with heap := s₂.heap, slotsUsed := s₂.slotsUsed } : State) L mc ms := by
      refine ⟨?_, q2, q3, q4, q5, q6⟩
      obtain ⟨t, ht, -⟩ := State.frames_cons hr
      show ({ U with heap := s₂.heap, slotsUsed := s₂.slotsUsed } : State) = { U.setFrames U.frames with heap := s₂.heap, slotsUsed := s₂.slotsUsed }
      rw [State.setFrames_self ht]
    subst hg
    refine Or.inr ⟨q, ⟨(({ U with heap := s₂.heap, slotsUsed := s₂.slotsUsed } : State).setVm s₂.vm), Ls ++ L, c0 + mc, s0 + ms⟩,
      ⟨X.admits, X.cas, X.clock, X.frames, X.room, X.hears, X.method, X.code, (X.here.setHeapUsed s₂.heap s₂.slotsUsed).setVm hW'.alike, X.tail, State.WarmedH.trans X.warmed hW', X.limits, X.bytes, X.same.trans (hsame.setVm s.vm)⟩,
      ⟨g, mk, s₂, L, E, ce, rfl, rfl, hx, hce, hcv, hcl, rfl, hL, rfl, rfl⟩, ?_⟩
    show Steps p.tables e below _ (((({ U with heap := s₂.heap, slotsUsed := s₂.slotsUsed } : State).setVm s₂.vm).setTop g).pushFrame (.throwing q))
    rw [← hs₂]
    exact hsteps
end Payer
section Calls
variable {p : Program} {l : Launch} {e : Env} {R : Room} {s : State} {m : MethodId} {args : Array Value} {below : List Frame} {meth : Method} {c : Code} {T : State} {locs : List Loc} {cells slots : Nat}
theorem vx_callV (X : Stand p l e R s m args below meth c T locs cells slots) (hexec : p.tables.exec = Jvm.exec) {own C : String} {index : Nat} {y : MethodName} {bytes : ByteArray} {maxL : Nat} {ret : Option FieldType}
    (hown : s.vm.findClass own = some m.cls) (hlink : (Cond.methodLink own index y).before args s = true) (hinst : (Cond.instanceMethod y).before args s = true) (hsel : (Cond.selects C y y).before args s = true)
    (hcode : (Cond.code y bytes maxL ret).before args s = true) (hy : y.cls ≠ "java/lang/invoke/MethodHandle" ∧ y.cls ≠ "java/lang/invoke/VarHandle")
    {W9 : Nat} {Pre : Pt → Array Value → Prop} {Post : Pt → Array Value → Option Value → Pt → Prop} {PostX : Pt → Array Value → Addr → Pt → Prop} (hK : vx_Back l R p e below s args y 3 W9 Pre Post PostX)
    {b : Addr} {cellB : Cell} (hcell : T.heap[b]? = some cellB) (hobj : cellB.vm.isStatics = false) (hcls : s.vm.findClass C = some cellB.cls)
    {g : JFrame} (hg : g.method = m) (hsize : g.locals.size = c.maxLocals) {argsL rest : List Value} (hlen : ∀ sig, parseMethodDescriptor y.desc = some sig → argsL.length = sig.parameters.length)
    (hstack : g.stack = argsL.reverse ++ .ref b :: rest) (hW : 2 * g.monitorRoom + (rest.map fun v => v.category).sum ≤ W9) (hdg : decode c.code g.pc = .ok (.invokevirtual index, 3))
    (hpre : ∀ vm₁, s.WarmedH vm₁ → Pre ⟨T.setVm vm₁, locs, cells, slots⟩ (Value.ref b :: argsL).toArray) :
    (∃ (v : Option Value) (vm₁ : Vm) (B : Pt), s.WarmedH vm₁ ∧ Stand p l e R s m args below meth c B.U B.locs B.cells B.slots ∧ Post ⟨T.setVm vm₁, locs, cells, slots⟩ (Value.ref b :: argsL).toArray v B ∧
      ∀ target, Steps p.tables e below (B.U.setTop { g with pc := g.pc + 3, stack := v.toList ++ rest }) target → Steps p.tables e below (T.setTop g) target) ∨
    (∃ (q : Addr) (vm₁ : Vm) (B : Pt), s.WarmedH vm₁ ∧ Stand p l e R s m args below meth c B.U B.locs B.cells B.slots ∧ PostX ⟨T.setVm vm₁, locs, cells, slots⟩ (Value.ref b :: argsL).toArray q B ∧
      Steps p.tables e below (T.setTop g) ((B.U.setTop { g with stack := rest }).pushFrame (.throwing q))) := by
  obtain ⟨mk, methM, hnamed, hmethM, hstM, habM⟩ := Cond.instanceMethod_spec hinst
  obtain ⟨methM', cM, hmethM', -, -, -, -, -, -, hsigM⟩ := Cond.code_spec hnamed hcode
  cases hmethM.symm.trans hmethM'
  obtain ⟨c2, r2, m2, q1, q2, q3, q4, kP, hkP, hkPi⟩ := Cond.selects_spec hsel
  cases hcls.symm.trans q1
  cases (State.methodFound?_of_named hnamed hy).symm.trans q2
  cases hnamed.symm.trans q3
  have hselP : selectMethod e.platform s.vm cellB.cls mk = .method mk := by rw [Launch.admits_selectMethod X.admits]; exact q4
  obtain ⟨vm₁, X₁, hstep₁⟩ := X.invokevirtual hexec hown hlink hnamed hmethM hstM hkP hkPi hy (a := b) (cell := cellB) hcell
    (fun z h => by rw [h] at hobj; cases hobj) hselP hmethM habM hkP hkPi (g := g) hg (argsL := argsL) (rest := rest) (hlen _ hsigM) hstack hdg
  rcases hK m meth c ⟨T.setVm vm₁, locs, cells, slots⟩ { g with stack := rest } (.invokevirtual index) mk (Value.ref b :: argsL).toArray X₁ hg hsize hdg hW (X₁.named hnamed) (hpre vm₁ X₁.warmed) with ⟨v, B, X', hpost, hsteps⟩ | ⟨q, B, X', hpost, hsteps⟩
  · exact Or.inl ⟨v, vm₁, B, X₁.warmed, X', hpost, fun target h => hstep₁ _ fun acts => by rw [doInvoke_state]; exact hsteps.trans h⟩
  · exact Or.inr ⟨q, vm₁, B, X₁.warmed, X', hpost, hstep₁ _ fun acts => by rw [doInvoke_state]; exact hsteps⟩
theorem vx_callS (X : Stand p l e R s m args below meth c T locs cells slots) (hexec : p.tables.exec = Jvm.exec) {own : String} {index : Nat} {y : MethodName} {bytes : ByteArray} {maxL : Nat} {ret : Option FieldType}
    (hown : s.vm.findClass own = some m.cls) (hlink : (Cond.methodLink own index y).before args s = true) (hstat : (Cond.static y).before args s = true) (hinit : (Cond.initialized y.cls).before args s = true)
    (hcode : (Cond.code y bytes maxL ret).before args s = true) (hy : y.cls ≠ "java/lang/invoke/MethodHandle" ∧ y.cls ≠ "java/lang/invoke/VarHandle")
    {W9 : Nat} {Pre : Pt → Array Value → Prop} {Post : Pt → Array Value → Option Value → Pt → Prop} {PostX : Pt → Array Value → Addr → Pt → Prop} (hK : vx_Back l R p e below s args y 3 W9 Pre Post PostX)
    {g : JFrame} (hg : g.method = m) (hsize : g.locals.size = c.maxLocals) {argsL rest : List Value} (hlen : ∀ sig, parseMethodDescriptor y.desc = some sig → argsL.length = sig.parameters.length)
    (hstack : g.stack = argsL.reverse ++ rest) (hW : 2 * g.monitorRoom + (rest.map fun v => v.category).sum ≤ W9) (hdg : decode c.code g.pc = .ok (.invokestatic index, 3))
    (hpre : ∀ vm₁, s.WarmedH vm₁ → Pre ⟨T.setVm vm₁, locs, cells, slots⟩ argsL.toArray) :
    (∃ (v : Option Value) (vm₁ : Vm) (B : Pt), s.WarmedH vm₁ ∧ Stand p l e R s m args below meth c B.U B.locs B.cells B.slots ∧ Post ⟨T.setVm vm₁, locs, cells, slots⟩ argsL.toArray v B ∧
      ∀ target, Steps p.tables e below (B.U.setTop { g with pc := g.pc + 3, stack := v.toList ++ rest }) target → Steps p.tables e below (T.setTop g) target) ∨
    (∃ (q : Addr) (vm₁ : Vm) (B : Pt), s.WarmedH vm₁ ∧ Stand p l e R s m args below meth c B.U B.locs B.cells B.slots ∧ PostX ⟨T.setVm vm₁, locs, cells, slots⟩ argsL.toArray q B ∧
      Steps p.tables e below (T.setTop g) ((B.U.setTop { g with stack := rest }).pushFrame (.throwing q))) := by
  obtain ⟨mk, hnamed⟩ := Cond.code_named hcode
  obtain ⟨methM, cM, hmethM, -, -, -, -, -, -, hsigM⟩ := Cond.code_spec hnamed hcode
  have hstatic : methM.isStatic = true := Cond.static_spec hnamed hmethM hstat
  obtain ⟨kP, hkP, -⟩ := className_of_methodNamed hnamed
  have hinitP : kP.init = .initialized := Cond.initialized_spec (findClass_of_methodNamed hnamed) hkP hinit
  obtain ⟨vm₁, X₁, hstep₁⟩ := X.invokestatic hexec hown hlink hnamed hmethM hstatic hkP hinitP hy (g := g) hg (argsL := argsL) (rest := rest) (hlen _ hsigM) hstack hdg
  rcases hK m meth c ⟨T.setVm vm₁, locs, cells, slots⟩ { g with stack := rest } (.invokestatic index) mk argsL.toArray X₁ hg hsize hdg hW (X₁.named hnamed) (hpre vm₁ X₁.warmed) with ⟨v, B, X', hpost, hsteps⟩ | ⟨q, B, X', hpost, hsteps⟩
  · exact Or.inl ⟨v, vm₁, B, X₁.warmed, X', hpost, fun target h => hstep₁ _ fun acts => by rw [doInvoke_state]; exact hsteps.trans h⟩
  · exact Or.inr ⟨q, vm₁, B, X₁.warmed, X', hpost, hstep₁ _ fun acts => by rw [doInvoke_state]; exact hsteps⟩
end Calls
theorem vx_cls {s : State} {T : State} {vm₁ : Vm} {E : String} {k : ClassId} (hW : s.WarmedH vm₁) (h : (T.setVm vm₁).vm.findClass E = some k) : s.vm.findClass E = some k := by
  have h1 : vm₁.findClass E = some k := h
  rw [hW.alike.findClass] at h1
  exact h1
/-- the method's frame g, with q thrown over it -/
def vx_W (p : Program) (l : Launch) (e : Env) (R : Room) (s : State) (m : MethodId) (args : Array Value) (below : List Frame) (meth : Method) (c : Code) (H : Heap) (locs : List Loc) (cells slots : Nat) (Q : State → Prop) (g : JFrame) (q : Addr) : Prop :=
  ∀ T : State, T.heap = H → Stand p l e R s m args below meth c T locs cells slots → ∃ t, Steps p.tables e below ((T.setTop g).pushFrame (.throwing q)) t ∧ Q t
def vx_Run (p : Program) (l : Launch) (e : Env) (R : Room) (s : State) (m : MethodId) (args : Array Value) (below : List Frame) (meth : Method) (c : Code) (H : Heap) (locs : List Loc) (cells slots mc ms : Nat) (g : JFrame) (rest : List Value) (Qa : State → Outcome → State → Prop) (XC : String → State → State → Prop) (free : Addr → Prop) : Prop :=
  ∀ T : State, T.heap = H → Stand p l e R s m args below meth c T locs cells slots →
    (∃ (v : Option Value) (st₀ t T' : State) (L : List Loc), st₀.heap = H ∧ Stand p l e R s m args below meth c T' (locs ++ L) (cells + mc) (slots + ms) ∧ (∀ q ∈ L, free q.base) ∧ T'.heap = t.heap ∧ T'.vm = t.vm ∧ Qa st₀ (.returned v) t ∧
      Goes p e below T g T' { g with pc := g.pc + 3, stack := v.toList ++ rest }) ∨
    (∃ (q : Addr) (st₀ t T' : State) (L : List Loc) (E : String) (ce : Cell), st₀.heap = H ∧ Stand p l e R s m args below meth c T' (locs ++ L) (cells + mc) (slots + ms) ∧ (∀ z ∈ L, free z.base) ∧ T'.heap = t.heap ∧ T'.vm = t.vm ∧ XC E st₀ t ∧ t.heap[q]? = some ce ∧ ce.vm = .none ∧ s.vm.findClass E = some ce.cls ∧
      Steps p.tables e below (T.setTop g) ((T'.setTop { g with stack := rest }).pushFrame (.throwing q)))
def vx_X {S : Type} (px : S → Prop) (B : String → S → State → Prop) (A : Nat → Prop) : String → State → State → Prop := fun E st t => ∃ u : S, px u ∧ B E u t ∧ va_F A st t
section Runs
variable {p : Program} {l : Launch} {e : Env} {R : Room} {s : State} {m : MethodId} {args : Array Value} {below : List Frame} {meth : Method} {c : Code} {H : Heap} {locs : List Loc} {cells slots : Nat}
variable {y : MethodName} {bytes cc : ByteArray} {maxL nL mc ms n index : Nat} {ret : Option FieldType} {ws : List Cond} {rm : Room} {Pc : Array Value → State → Prop} {Qc : Array Value → State → Outcome → State → Prop} {XC : String → State → State → Prop} {free : Addr → Prop} {Ts : List Cond} {own C : String} {b : Addr} {As rest : List Value} {g : JFrame}
theorem vx_callBack (cb : CallB R s args own index y bytes maxL ret ws rm mc ms n) (hM : vx_Met l y ws rm Pc Qc XC mc ms free) (hbl : FrameBlind Pc) : vx_Back l R p e below s args y 3 8 (PreOf R mc ms Pc) (PostOf Qc mc ms free) (vx_Post XC mc ms free) := by
  obtain ⟨hrc, hrs, hfr, hlo, hws, hcw, -, hini, -⟩ := cb
  exact vx_back (bytes := bytes) (maxL := maxL) (ret := ret) hM hbl hrc hrs hfr hlo hws hcw (fun a' U hW => word_at hW (Or.inl (by first | rfl | simp [Cond.onTables, Cond.keeps, Cond.steady])) hini)
theorem vx_runV (S : CallFix p m c cc nL s args Ts own) (hM : vx_Met l y ws rm Pc Qc XC mc ms free) (cw : CallW R s args own C index y bytes maxL ret ws rm mc ms n) (hp : PreV s H C b Pc As)
    (hg : g.method = m) (hn : As.length = n) (hsize : g.locals.size = nL) (hstack : g.stack = As.reverse ++ .ref b :: rest) (hW : 2 * g.monitorRoom + (rest.map fun v => v.category).sum ≤ 8) (hdg : decode cc g.pc = .ok (.invokevirtual index, 3)) (hf : cells + mc ≤ R.cells ∧ slots + ms ≤ R.slots) :
    vx_Run p l e R s m args below meth c H locs cells slots mc ms g rest (Qc (Value.ref b :: As).toArray) XC free := by
  have hK : vx_Back l R p e below s args y 3 8 (PreOf R mc ms Pc) (PostOf Qc mc ms free) (vx_Post XC mc ms free) := vx_callBack cw.1 hM hp.1
  obtain ⟨⟨-, -, -, -, -, -, hcode, -, hy, hlen, hl⟩, hin, hse⟩ := cw
  obtain ⟨hx, hb, hml, ho, -⟩ := S
  obtain ⟨-, ⟨cellB, hcB, hoB, hclB⟩, hPc⟩ := hp
  intro T hT X
  rcases vx_callV X hx (C := C) (bytes := bytes) (maxL := maxL) (ret := ret) ho hl hin hse hcode hy hK (by rw [hT]; exact hcB) hoB hclB hg (hsize.trans hml.symm) (argsL := As) (rest := rest) (fun sig h => hn.trans (hlen sig h)) hstack hW (by rw [hb]; exact hdg)
    (fun vm₁ hW₁ => ⟨hf.1, hf.2, hPc (T.setVm vm₁) hT hW₁⟩) with ⟨v, vm₁, ⟨U', l2, c2, s2⟩, hW₁, X', ⟨g', mk, t, L, e1, e2, hq, h1, hL, h2, h3⟩, st⟩ | ⟨q, vm₁, ⟨U', l2, c2, s2⟩, hW₁, X', ⟨g', mk, t, L, E, ce, e1, e2, hq, hce, hcv, hcl, h1, hL, h2, h3⟩, st⟩
  · dsimp only [Pt.U, Pt.locs, Pt.cells, Pt.slots] at X' e1 e2 h1 h2 h3 st
    subst h1; subst h2; subst h3
    exact Or.inl ⟨v, (T.setVm vm₁).calling g' mk (Value.ref b :: As).toArray, t, U', L, hT, X', hL, e1, e2, hq, st⟩
  · dsimp only [Pt.U, Pt.locs, Pt.cells, Pt.slots] at X' e1 e2 h1 h2 h3 st hcl
    subst h1; subst h2; subst h3
    exact Or.inr ⟨q, (T.setVm vm₁).calling g' mk (Value.ref b :: As).toArray, t, U', L, E, ce, hT, X', hL, e1, e2, hq, hce, hcv, vx_cls hW₁ hcl, st⟩
theorem vx_runS (S : CallFix p m c cc nL s args Ts own) (hM : vx_Met l y ws rm Pc Qc XC mc ms free) (cw : CallB R s args own index y bytes maxL ret ws rm mc ms n ∧ (Cond.static y).before args s = true) (hp : PreS s H Pc As)
    (hg : g.method = m) (hn : As.length = n) (hsize : g.locals.size = nL) (hstack : g.stack = As.reverse ++ rest) (hW : 2 * g.monitorRoom + (rest.map fun v => v.category).sum ≤ 8) (hdg : decode cc g.pc = .ok (.invokestatic index, 3)) (hf : cells + mc ≤ R.cells ∧ slots + ms ≤ R.slots) :
    vx_Run p l e R s m args below meth c H locs cells slots mc ms g rest (Qc As.toArray) XC free := by
  have hK : vx_Back l R p e below s args y 3 8 (PreOf R mc ms Pc) (PostOf Qc mc ms free) (vx_Post XC mc ms free) := vx_callBack cw.1 hM hp.1
  obtain ⟨⟨-, -, -, -, -, -, hcode, hini, hy, hlen, hl⟩, hstt⟩ := cw
  obtain ⟨hx, hb, hml, ho, -⟩ := S
  intro T hT X
  rcases vx_callS X hx (bytes := bytes) (maxL := maxL) (ret := ret) ho hl hstt hini hcode hy hK hg (hsize.trans hml.symm) (argsL := As) (rest := rest) (fun sig h => hn.trans (hlen sig h)) hstack hW (by rw [hb]; exact hdg)
    (fun vm₁ hW₁ => ⟨hf.1, hf.2, hp.2 (T.setVm vm₁) hT hW₁⟩) with ⟨v, vm₁, ⟨U', l2, c2, s2⟩, hW₁, X', ⟨g', mk, t, L, e1, e2, hq, h1, hL, h2, h3⟩, st⟩ | ⟨q, vm₁, ⟨U', l2, c2, s2⟩, hW₁, X', ⟨g', mk, t, L, E, ce, e1, e2, hq, hce, hcv, hcl, h1, hL, h2, h3⟩, st⟩
  · dsimp only [Pt.U, Pt.locs, Pt.cells, Pt.slots] at X' e1 e2 h1 h2 h3 st
    subst h1; subst h2; subst h3
    exact Or.inl ⟨v, (T.setVm vm₁).calling g' mk As.toArray, t, U', L, hT, X', hL, e1, e2, hq, st⟩
  · dsimp only [Pt.U, Pt.locs, Pt.cells, Pt.slots] at X' e1 e2 h1 h2 h3 st hcl
    subst h1; subst h2; subst h3
    exact Or.inr ⟨q, (T.setVm vm₁).calling g' mk As.toArray, t, U', L, E, ce, hT, X', hL, e1, e2, hq, hce, hcv, vx_cls hW₁ hcl, st⟩
end Runs
section Rows
variable {p : Program} {l : Launch} {e : Env} {R : Room} {s : State} {m : MethodId} {args : Array Value} {below : List Frame} {meth : Method} {c : Code} {H : Heap} {locs : List Loc} {cells slots : Nat} {Q : State → Prop}
variable {mc ms : Nat} {free : Addr → Prop} {A0 A1 : Nat → Prop} {H0 : Heap} {a : Array Value} {pc : Nat} {ls : Array Slot} {st0 rest : List Value}
theorem vx_keep {st₀ t T' : State} {L : List Loc} (h0 : st₀.heap = H) (e1 : T'.heap = t.heap) (hS : va_S A0 H0 H locs) (hA : ∀ q, q < H.size → A1 q → A0 q) (hf : ∀ q, free q → A0 q) (hL : ∀ q ∈ L, free q.base) (hF : va_F A1 st₀ t) :
    H.size ≤ T'.heap.size ∧ (∀ q : Nat, q < H.size → ¬ A1 q → T'.heap[q]? = H[q]?) ∧ va_S A0 H0 T'.heap (locs ++ L) := by
  obtain ⟨hz, hk⟩ := hF
  rw [h0] at hz hk
  exact ⟨by rw [e1]; exact hz, fun q h1 h2 => by rw [e1]; exact hk q h1 h2,
    ⟨Nat.le_trans hS.1 (by rw [e1]; exact hz), fun q h1 h2 => by rw [e1, hk q (Nat.lt_of_lt_of_le h1 hS.1) (fun z => h2 (hA q (Nat.lt_of_lt_of_le h1 hS.1) z))]; exact hS.2.1 q h1 h2, fun q hq => by
      rcases List.mem_append.mp hq with h | h
      · exact hS.2.2 q h
      · exact hf _ (hL q h)⟩⟩
theorem vx_calli {S SX : Type} {post : Int32 → S → Prop} {px : SX → Prop} {B : S → State → Prop} {BX : String → SX → State → Prop} {AX : Nat → Prop} (hr : vx_Run p l e R s m args below meth c H locs cells slots mc ms (F0 m pc ls st0) rest (va_Qi post B A1 a) (vx_X px BX AX) free) (hS : va_S A0 H0 H locs) (hA : ∀ q, q < H.size → A1 q → A0 q) (hf : ∀ q, free q → A0 q) (hAX : ∀ q, q < H.size → AX q → A0 q)
    (kx : ∀ (E : String) (ce : Cell) (q9 : Addr) (u : SX) (t : State) (H1 : Heap) (locs1 : List Loc), t.heap = H1 → s.vm.Alike t.vm → px u → BX E u t → H.size ≤ H1.size → (∀ q : Nat, q < H.size → ¬ AX q → H1[q]? = H[q]?) → va_S A0 H0 H1 locs1 → H1[q9]? = some ce → ce.vm = .none → s.vm.findClass E = some ce.cls → vx_W p l e R s m args below meth c H1 locs1 (cells + mc) (slots + ms) Q (F0 m pc ls rest) q9)
    (kk : ∀ (r : Int32) (u : S) (t : State) (H1 : Heap) (locs1 : List Loc), t.heap = H1 → s.vm.Alike t.vm → post r u → B u t → H.size ≤ H1.size → (∀ q : Nat, q < H.size → ¬ A1 q → H1[q]? = H[q]?) → va_S A0 H0 H1 locs1 → W p l e R s m args below meth c H1 locs1 (cells + mc) (slots + ms) Q (F0 m (pc + 3) ls (.int r :: rest))) : W p l e R s m args below meth c H locs cells slots Q (F0 m pc ls st0) := by
  intro T hT X
  rcases hr T hT X with ⟨v, st₀, t, T', L, h0, X', hL, e1, e2, ⟨⟨r, u, hv, hp, hb⟩, hF⟩, st⟩ | ⟨q, st₀, t, T', L, E, ce, h0, X', hL, e1, e2, ⟨u, hp, hb, hF⟩, hce, hcv, hcl, st⟩
  · cases hv
    obtain ⟨k1, k2, k3⟩ := vx_keep h0 e1 hS hA hf hL hF
    obtain ⟨t2, a1, b1⟩ := kk r u t T'.heap (locs ++ L) e1.symm (by rw [← e2]; exact X'.warmed.alike) hp hb k1 k2 k3 T' rfl X'
    exact ⟨t2, st t2 a1, b1⟩
  · obtain ⟨k1, k2, k3⟩ := vx_keep h0 e1 hS hAX hf hL hF
    obtain ⟨t2, a1, b1⟩ := kx E ce q u t T'.heap (locs ++ L) e1.symm (by rw [← e2]; exact X'.warmed.alike) hp hb k1 k2 k3 (by rw [e1]; exact hce) hcv hcl T' rfl X'
    exact ⟨t2, st.trans a1, b1⟩
theorem vx_calll {S SX : Type} {post : Int64 → S → Prop} {px : SX → Prop} {B : S → State → Prop} {BX : String → SX → State → Prop} {AX : Nat → Prop} (hr : vx_Run p l e R s m args below meth c H locs cells slots mc ms (F0 m pc ls st0) rest (va_Ql post B A1 a) (vx_X px BX AX) free) (hS : va_S A0 H0 H locs) (hA : ∀ q, q < H.size → A1 q → A0 q) (hf : ∀ q, free q → A0 q) (hAX : ∀ q, q < H.size → AX q → A0 q)
    (kx : ∀ (E : String) (ce : Cell) (q9 : Addr) (u : SX) (t : State) (H1 : Heap) (locs1 : List Loc), t.heap = H1 → s.vm.Alike t.vm → px u → BX E u t → H.size ≤ H1.size → (∀ q : Nat, q < H.size → ¬ AX q → H1[q]? = H[q]?) → va_S A0 H0 H1 locs1 → H1[q9]? = some ce → ce.vm = .none → s.vm.findClass E = some ce.cls → vx_W p l e R s m args below meth c H1 locs1 (cells + mc) (slots + ms) Q (F0 m pc ls rest) q9)
    (kk : ∀ (r : Int64) (u : S) (t : State) (H1 : Heap) (locs1 : List Loc), t.heap = H1 → s.vm.Alike t.vm → post r u → B u t → H.size ≤ H1.size → (∀ q : Nat, q < H.size → ¬ A1 q → H1[q]? = H[q]?) → va_S A0 H0 H1 locs1 → W p l e R s m args below meth c H1 locs1 (cells + mc) (slots + ms) Q (F0 m (pc + 3) ls (.long r :: rest))) : W p l e R s m args below meth c H locs cells slots Q (F0 m pc ls st0) := by
  intro T hT X
  rcases hr T hT X with ⟨v, st₀, t, T', L, h0, X', hL, e1, e2, ⟨⟨r, u, hv, hp, hb⟩, hF⟩, st⟩ | ⟨q, st₀, t, T', L, E, ce, h0, X', hL, e1, e2, ⟨u, hp, hb, hF⟩, hce, hcv, hcl, st⟩
  · cases hv
    obtain ⟨k1, k2, k3⟩ := vx_keep h0 e1 hS hA hf hL hF
    obtain ⟨t2, a1, b1⟩ := kk r u t T'.heap (locs ++ L) e1.symm (by rw [← e2]; exact X'.warmed.alike) hp hb k1 k2 k3 T' rfl X'
    exact ⟨t2, st t2 a1, b1⟩
  · obtain ⟨k1, k2, k3⟩ := vx_keep h0 e1 hS hAX hf hL hF
    obtain ⟨t2, a1, b1⟩ := kx E ce q u t T'.heap (locs ++ L) e1.symm (by rw [← e2]; exact X'.warmed.alike) hp hb k1 k2 k3 (by rw [e1]; exact hce) hcv hcl T' rfl X'
    exact ⟨t2, st.trans a1, b1⟩
theorem vx_callf {S SX : Type} {post : UInt32 → S → Prop} {px : SX → Prop} {B : S → State → Prop} {BX : String → SX → State → Prop} {AX : Nat → Prop} (hr : vx_Run p l e R s m args below meth c H locs cells slots mc ms (F0 m pc ls st0) rest (va_Qf post B A1 a) (vx_X px BX AX) free) (hS : va_S A0 H0 H locs) (hA : ∀ q, q < H.size → A1 q → A0 q) (hf : ∀ q, free q → A0 q) (hAX : ∀ q, q < H.size → AX q → A0 q)
    (kx : ∀ (E : String) (ce : Cell) (q9 : Addr) (u : SX) (t : State) (H1 : Heap) (locs1 : List Loc), t.heap = H1 → s.vm.Alike t.vm → px u → BX E u t → H.size ≤ H1.size → (∀ q : Nat, q < H.size → ¬ AX q → H1[q]? = H[q]?) → va_S A0 H0 H1 locs1 → H1[q9]? = some ce → ce.vm = .none → s.vm.findClass E = some ce.cls → vx_W p l e R s m args below meth c H1 locs1 (cells + mc) (slots + ms) Q (F0 m pc ls rest) q9)
    (kk : ∀ (r : UInt32) (u : S) (t : State) (H1 : Heap) (locs1 : List Loc), t.heap = H1 → s.vm.Alike t.vm → post r u → B u t → H.size ≤ H1.size → (∀ q : Nat, q < H.size → ¬ A1 q → H1[q]? = H[q]?) → va_S A0 H0 H1 locs1 → W p l e R s m args below meth c H1 locs1 (cells + mc) (slots + ms) Q (F0 m (pc + 3) ls (.float r :: rest))) : W p l e R s m args below meth c H locs cells slots Q (F0 m pc ls st0) := by
  intro T hT X
  rcases hr T hT X with ⟨v, st₀, t, T', L, h0, X', hL, e1, e2, ⟨⟨r, u, hv, hp, hb⟩, hF⟩, st⟩ | ⟨q, st₀, t, T', L, E, ce, h0, X', hL, e1, e2, ⟨u, hp, hb, hF⟩, hce, hcv, hcl, st⟩
  · cases hv
    obtain ⟨k1, k2, k3⟩ := vx_keep h0 e1 hS hA hf hL hF
    obtain ⟨t2, a1, b1⟩ := kk r u t T'.heap (locs ++ L) e1.symm (by rw [← e2]; exact X'.warmed.alike) hp hb k1 k2 k3 T' rfl X'
    exact ⟨t2, st t2 a1, b1⟩
  · obtain ⟨k1, k2, k3⟩ := vx_keep h0 e1 hS hAX hf hL hF
    obtain ⟨t2, a1, b1⟩ := kx E ce q u t T'.heap (locs ++ L) e1.symm (by rw [← e2]; exact X'.warmed.alike) hp hb k1 k2 k3 (by rw [e1]; exact hce) hcv hcl T' rfl X'
    exact ⟨t2, st.trans a1, b1⟩
theorem vx_calld {S SX : Type} {post : UInt64 → S → Prop} {px : SX → Prop} {B : S → State → Prop} {BX : String → SX → State → Prop} {AX : Nat → Prop} (hr : vx_Run p l e R s m args below meth c H locs cells slots mc ms (F0 m pc ls st0) rest (va_Qd post B A1 a) (vx_X px BX AX) free) (hS : va_S A0 H0 H locs) (hA : ∀ q, q < H.size → A1 q → A0 q) (hf : ∀ q, free q → A0 q) (hAX : ∀ q, q < H.size → AX q → A0 q)
    (kx : ∀ (E : String) (ce : Cell) (q9 : Addr) (u : SX) (t : State) (H1 : Heap) (locs1 : List Loc), t.heap = H1 → s.vm.Alike t.vm → px u → BX E u t → H.size ≤ H1.size → (∀ q : Nat, q < H.size → ¬ AX q → H1[q]? = H[q]?) → va_S A0 H0 H1 locs1 → H1[q9]? = some ce → ce.vm = .none → s.vm.findClass E = some ce.cls → vx_W p l e R s m args below meth c H1 locs1 (cells + mc) (slots + ms) Q (F0 m pc ls rest) q9)
    (kk : ∀ (r : UInt64) (u : S) (t : State) (H1 : Heap) (locs1 : List Loc), t.heap = H1 → s.vm.Alike t.vm → post r u → B u t → H.size ≤ H1.size → (∀ q : Nat, q < H.size → ¬ A1 q → H1[q]? = H[q]?) → va_S A0 H0 H1 locs1 → W p l e R s m args below meth c H1 locs1 (cells + mc) (slots + ms) Q (F0 m (pc + 3) ls (.double r :: rest))) : W p l e R s m args below meth c H locs cells slots Q (F0 m pc ls st0) := by
  intro T hT X
  rcases hr T hT X with ⟨v, st₀, t, T', L, h0, X', hL, e1, e2, ⟨⟨r, u, hv, hp, hb⟩, hF⟩, st⟩ | ⟨q, st₀, t, T', L, E, ce, h0, X', hL, e1, e2, ⟨u, hp, hb, hF⟩, hce, hcv, hcl, st⟩
  · cases hv
    obtain ⟨k1, k2, k3⟩ := vx_keep h0 e1 hS hA hf hL hF
    obtain ⟨t2, a1, b1⟩ := kk r u t T'.heap (locs ++ L) e1.symm (by rw [← e2]; exact X'.warmed.alike) hp hb k1 k2 k3 T' rfl X'
    exact ⟨t2, st t2 a1, b1⟩
  · obtain ⟨k1, k2, k3⟩ := vx_keep h0 e1 hS hAX hf hL hF
    obtain ⟨t2, a1, b1⟩ := kx E ce q u t T'.heap (locs ++ L) e1.symm (by rw [← e2]; exact X'.warmed.alike) hp hb k1 k2 k3 (by rw [e1]; exact hce) hcv hcl T' rfl X'
    exact ⟨t2, st.trans a1, b1⟩
theorem vx_callv {S SX : Type} {post : S → Prop} {px : SX → Prop} {B : S → State → Prop} {BX : String → SX → State → Prop} {AX : Nat → Prop} (hr : vx_Run p l e R s m args below meth c H locs cells slots mc ms (F0 m pc ls st0) rest (va_Qv post B A1 a) (vx_X px BX AX) free) (hS : va_S A0 H0 H locs) (hA : ∀ q, q < H.size → A1 q → A0 q) (hf : ∀ q, free q → A0 q) (hAX : ∀ q, q < H.size → AX q → A0 q)
    (kx : ∀ (E : String) (ce : Cell) (q9 : Addr) (u : SX) (t : State) (H1 : Heap) (locs1 : List Loc), t.heap = H1 → s.vm.Alike t.vm → px u → BX E u t → H.size ≤ H1.size → (∀ q : Nat, q < H.size → ¬ AX q → H1[q]? = H[q]?) → va_S A0 H0 H1 locs1 → H1[q9]? = some ce → ce.vm = .none → s.vm.findClass E = some ce.cls → vx_W p l e R s m args below meth c H1 locs1 (cells + mc) (slots + ms) Q (F0 m pc ls rest) q9)
    (kk : ∀ (u : S) (t : State) (H1 : Heap) (locs1 : List Loc), t.heap = H1 → s.vm.Alike t.vm → post u → B u t → H.size ≤ H1.size → (∀ q : Nat, q < H.size → ¬ A1 q → H1[q]? = H[q]?) → va_S A0 H0 H1 locs1 → W p l e R s m args below meth c H1 locs1 (cells + mc) (slots + ms) Q (F0 m (pc + 3) ls (rest))) : W p l e R s m args below meth c H locs cells slots Q (F0 m pc ls st0) := by
  intro T hT X
  rcases hr T hT X with ⟨v, st₀, t, T', L, h0, X', hL, e1, e2, ⟨⟨u, hv, hp, hb⟩, hF⟩, st⟩ | ⟨q, st₀, t, T', L, E, ce, h0, X', hL, e1, e2, ⟨u, hp, hb, hF⟩, hce, hcv, hcl, st⟩
  · cases hv
    obtain ⟨k1, k2, k3⟩ := vx_keep h0 e1 hS hA hf hL hF
    obtain ⟨t2, a1, b1⟩ := kk u t T'.heap (locs ++ L) e1.symm (by rw [← e2]; exact X'.warmed.alike) hp hb k1 k2 k3 T' rfl X'
    exact ⟨t2, st t2 a1, b1⟩
  · obtain ⟨k1, k2, k3⟩ := vx_keep h0 e1 hS hAX hf hL hF
    obtain ⟨t2, a1, b1⟩ := kx E ce q u t T'.heap (locs ++ L) e1.symm (by rw [← e2]; exact X'.warmed.alike) hp hb k1 k2 k3 (by rw [e1]; exact hce) hcv hcl T' rfl X'
    exact ⟨t2, st.trans a1, b1⟩
/-- caught by the row x of this method's table; the rows ahead don't take it -/
theorem vx_catch {own name : String} {E : String} {ce : Cell} {q : Addr} (hown : s.vm.findClass own = some m.cls) (pre : List ExceptionTableEntry) (x : ExceptionTableEntry) (suf : List ExceptionTableEntry) (hsplit : c.exceptionTable.toList = pre ++ x :: suf)
    (hpass : ∀ z ∈ pre, covers z pc = false ∨ (z.catchType ≠ 0 ∧ ∃ nm : String, (Cond.classLink own z.catchType nm).before args s = true ∧ va_Nc E nm s)) (hx : covers x pc = true) (h0 : x.catchType ≠ 0)
    (hlink : (Cond.classLink own x.catchType name).before args s = true) (hcast : (Cond.castable E name).before args s = true) (hcell : H[q]? = some ce) (hv : ce.vm = .none) (hcl : s.vm.findClass E = some ce.cls)
    (kk : W p l e R s m args below meth c H locs cells slots Q (F0 m x.handlerPc ls [.ref q])) : vx_W p l e R s m args below meth c H locs cells slots Q (F0 m pc ls rest) q := by
  intro T hT X
  have hpl : e.platform.magicAccessors = ({} : Platform).magicAccessors := by rw [X.admits.platform]
  obtain ⟨c3, c4, hc3, hc4, hasg⟩ := Cond.castable_spec hcast
  cases Option.some.inj (hc3.symm.trans hcl)
  obtain ⟨c5, hc5, hcl5⟩ := Cond.classLink_spec hown hlink e.platform hpl
  cases Option.some.inj (hc4.symm.trans hc5)
  obtain ⟨vm', X', st⟩ := X.thenCaughtThrough q (g := F0 m pc ls rest) rfl (Steps.refl _) (by rw [hT]; exact hcell) (by rw [hv]; rfl) (by obtain ⟨k9, h9, -⟩ := Vm.findClass_spec hcl; exact ⟨k9, h9⟩) pre x suf hsplit
    (fun z hz => by
      rcases hpass z hz with h | ⟨hz0, nm, hl1, hn1⟩
      · exact Or.inl h
      · obtain ⟨c6, hc6, hcl6⟩ := Cond.classLink_spec hown hl1 e.platform hpl
        obtain ⟨a8, b8, h1, h2, h3⟩ := hn1
        cases Option.some.inj (h1.symm.trans hcl)
        cases Option.some.inj (h2.symm.trans hc6)
        exact Or.inr ⟨hz0, _, hcl6, h3⟩) hx (Or.inr ⟨h0, c4, hcl5, hasg⟩)
  obtain ⟨t, a1, b1⟩ := kk (T.setVm vm') hT X'
  exact ⟨t, st.trans a1, b1⟩
end Rows
section Ends
variable {p : Program} {l : Launch} {e : Env} {R : Room} {s : State} {m : MethodId} {args : Array Value} {below : List Frame} {meth : Method} {c : Code} {H : Heap} {locs : List Loc} {cells slots : Nat} {Q : State → Prop}
variable {mc ms : Nat} {free : Addr → Prop} {A0 A1 : Nat → Prop} {H0 : Heap} {a : Array Value} {ls : Array Slot} {st0 rest : List Value}
variable {Qc : Array Value → State → Outcome → State → Prop} {XC : String → State → State → Prop}
/-- what a body that may throw owes at its end -/
def vx_MQ (below : List Frame) (Qc : Array Value → State → Outcome → State → Prop) (XC : String → State → State → Prop) (a : Array Value) (s : State) (mc ms : Nat) (free : Addr → Prop) : State → Prop := fun t =>
  ∃ o, t.status = .running ∧ Ended t below o ∧ vx_Q Qc XC mc ms free a s o t
theorem vx_ret {g : JFrame} {mc ms : Nat} (k : W p l e R s m args below meth c H locs cells slots (MQ below Qc args s mc ms free) g) : W p l e R s m args below meth c H locs cells slots (vx_MQ below Qc XC args s mc ms free) g := by
  intro T hT X
  obtain ⟨t, a1, o, b1, b2, b3, b4⟩ := k T hT X
  exact ⟨t, a1, o, b1, b2, Or.inl ⟨b3, b4⟩⟩
/-- not caught here: it goes on to the caller -/
theorem vx_widen {g : JFrame} {q : Addr} {k n : Nat} (h1 : cells ≤ k) (h2 : slots ≤ n) (kk : vx_W p l e R s m args below meth c H locs k n Q g q) : vx_W p l e R s m args below meth c H locs cells slots Q g q := fun T hT X => kk T hT (stand_widen X h1 h2)
theorem vx_out {pc : Nat} {E : String} {ce : Cell} {q : Addr} {mc ms : Nat} (hout : ∀ x ∈ c.exceptionTable.toList, covers x pc = false) (hlocks : meth.locks = false) (hcell : H[q]? = some ce) (hv : ce.vm = .none) (hcl : s.vm.findClass E = some ce.cls)
    (hx : ∀ t : State, t.heap = H → s.vm.Alike t.vm → XC E s t) (hf : ∀ z ∈ locs, free z.base) (hc : cells ≤ mc) (hs : slots ≤ ms) :
    vx_W p l e R s m args below meth c H locs cells slots (vx_MQ below Qc XC args s mc ms free) (F0 m pc ls rest) q := by
  intro T hT X
  obtain ⟨st1, hrun, hend, hW, hsm⟩ := X.leaveThrown q (g := F0 m pc ls rest) rfl rfl rfl hout hlocks
  have hcell9 : (T.setFrames (.throwing q :: below)).heap[q]? = some ce := by
    show T.heap[q]? = some ce
    rw [hT]; exact hcell
  exact ⟨_, st1, .threw q, hrun, hend, Or.inr ⟨q, rfl, E, ce, locs, hx _ hT hW.alike, hcell9, hv, hcl, hW, hsm.mono hc hs, hf⟩⟩
theorem vx_frame {U : State} {k n : Nat} (h : s.sameButNew ({ U with vm := s.vm } : State) locs k n) : s.heap.size ≤ U.heap.size ∧ ∀ q : Nat, q < s.heap.size → (∀ z ∈ locs, z.base ≠ q) → U.heap[q]? = s.heap[q]? := by
  obtain ⟨-, h2, -, -, -, h6⟩ := h
  refine ⟨h2, fun q hq hz => ?_⟩
  obtain ⟨c9, e1, e2, e3, e4⟩ := h6 q _ (Array.getElem?_eq_getElem hq)
  have hs : c9.slots = (s.heap[q]).slots := Array.ext_getElem? fun i => e4 i fun hm => hz _ hm rfl
  have h9 : c9 = s.heap[q] := by
    rw [hs] at e2
    exact e2
  have e5 : U.heap[q]? = some c9 := e1
  rw [e5, h9, Array.getElem?_eq_getElem hq]
/-- the words of a throw but the four that speak of the heap -/
def vx_no (w : Cond) : Bool := decide (w ≠ .isRef (.static Bundle.tN "UNASSIGNED_STACK" Bundle.steD)) && decide (w ≠ .isRef (.static Bundle.tN "SUPPRESSED_SENTINEL" Bundle.listD)) && decide (w ≠ .laysStatic Bundle.tN "UNASSIGNED_STACK" Bundle.steD) && decide (w ≠ .laysStatic Bundle.tN "SUPPRESSED_SENTINEL" Bundle.listD)
def vx_at0 (own : String) (ic : Nat) (X : String) (names : List String) : List Cond := (Bundle.ownAtoms0 own ic X names).filter vx_no
def vx_atS (own : String) (ic : Nat) (X : String) (names : List String) : List Cond := (Bundle.ownAtoms own ic X names).filter vx_no
/-- a word that the tables alone decide, or a good one -/
def vx_ot (w : Cond) : Bool := w.onTables || goodWord w
theorem vx_ot_at {args a' : Array Value} {s U : State} {w : Cond} (hW : s.WarmedH U.vm) (hvm : s.vm = U.vm) (hg : vx_ot w = true) (h : w.before args s = true) : w.before a' U = true := by
  simp only [vx_ot, Bool.or_eq_true] at hg
  rcases hg with hg | hg
  · exact va_tabs hg hvm h
  · exact word_at hW (good_of_word hg) h
/-- a list's words: the good ones out of the method's own list, the others by premises of their own -/
theorem vx_hat {args : Array Value} {s : State} {L B : List Cond} (h1 : ∀ w ∈ L.filter goodWord, w.before args s = true) (h2 : ∀ w ∈ L.filter (fun w => !goodWord w), w ∈ B) (h3 : ∀ w ∈ B, w.before args s = true) : ∀ w ∈ L, w.before args s = true := by
  intro w hw
  by_cases g : goodWord w = true
  · exact h1 w (List.mem_filter.mpr ⟨hw, g⟩)
  · refine h3 w (h2 w (List.mem_filter.mpr ⟨hw, ?_⟩))
    show (!goodWord w) = true
    cases hgw : goodWord w
    · rfl
    · exact absurd hgw g
theorem vx_c {args : Array Value} {s : State} {w : Cond} {B : List Cond} (h : w.before args s = true) (t : ∀ w ∈ B, w.before args s = true) : ∀ w' ∈ w :: B, w'.before args s = true := fun w' h' => (List.mem_cons.mp h').elim (fun e => by rw [e]; exact h) (t w')
theorem vx_n {args : Array Value} {s : State} : ∀ w ∈ ([] : List Cond), w.before args s = true := fun _ h => nomatch h
theorem vx_own {args : Array Value} {s : State} {L : List Cond} (h1 : ∀ w ∈ L.filter vx_no, w.before args s = true)
    (hU : (Cond.isRef (.static Bundle.tN "UNASSIGNED_STACK" Bundle.steD)).before args s = true) (hN : (Cond.isRef (.static Bundle.tN "SUPPRESSED_SENTINEL" Bundle.listD)).before args s = true)
    (lU : (Cond.laysStatic Bundle.tN "UNASSIGNED_STACK" Bundle.steD).before args s = true) (lN : (Cond.laysStatic Bundle.tN "SUPPRESSED_SENTINEL" Bundle.listD).before args s = true) : ∀ w ∈ L, w.before args s = true := by
  intro w hw
  by_cases e1 : w = .isRef (.static Bundle.tN "UNASSIGNED_STACK" Bundle.steD)
  · rw [e1]; exact hU
  · by_cases e2 : w = .isRef (.static Bundle.tN "SUPPRESSED_SENTINEL" Bundle.listD)
    · rw [e2]; exact hN
    · by_cases e3 : w = .laysStatic Bundle.tN "UNASSIGNED_STACK" Bundle.steD
      · rw [e3]; exact lU
      · by_cases e4 : w = .laysStatic Bundle.tN "SUPPRESSED_SENTINEL" Bundle.listD
        · rw [e4]; exact lN
        · exact h1 w (List.mem_filter.mpr ⟨hw, by unfold vx_no; rw [decide_eq_true e1, decide_eq_true e2, decide_eq_true e3, decide_eq_true e4]; rfl⟩)
/-- where a static field lies, its class's statics cell in H -/
def vx_L (C n d : String) (A : Nat → Prop) (U : State) (H : Heap) : Prop := ∃ (c : ClassId) (k : Class) (i : Nat) (f : Field) (a : Nat) (cell : Cell), U.vm.findClass C = some c ∧ U.fieldFound? C n d = some (c, k, i, f) ∧ f.isStatic = true ∧ k.statics = some a ∧ H[a]? = some cell ∧ cell.vm.isStatics = true ∧ cell.cls = c ∧ f.slot < cell.slots.size ∧ k.staticTypes[f.slot]? = some f.type ∧ ¬ A a
theorem vx_L.moved {C n d : String} {A : Nat → Prop} {u U : State} {H : Heap} (hvm : u.vm.Alike U.vm) (h : vx_L C n d A u H) : vx_L C n d A U H := by
  obtain ⟨c, k, i, f, a, cell, h1, h2, h3, h4, h5, h6, h7, h8, h9, h10⟩ := h
  obtain ⟨k', hi', he⟩ := State.fieldFound?_setVm hvm h2
  exact ⟨c, k', i, f, a, cell, by rw [hvm.findClass]; exact h1, hi', h3, by rw [he]; exact h4, h5, h6, h7, h8, by rw [he]; exact h9, h10⟩
theorem vx_L.kept {C n d : String} {A : Nat → Prop} {U : State} {H H1 : Heap} (h : vx_L C n d A U H) (hq : ∀ a : Nat, a < H.size → ¬ A a → H1[a]? = H[a]?) : vx_L C n d A U H1 := by
  obtain ⟨c, k, i, f, a, cell, h1, h2, h3, h4, h5, h6, h7, h8, h9, h10⟩ := h
  exact ⟨c, k, i, f, a, cell, h1, h2, h3, h4, by rw [hq a (Array.getElem?_eq_some_iff.mp h5).1 h10]; exact h5, h6, h7, h8, h9, h10⟩
theorem vx_L.narrow {C n d : String} {A B : Nat → Prop} {U : State} {H : Heap} (h : vx_L C n d A U H) (hAB : ∀ q, B q → A q) : vx_L C n d B U H := by
  obtain ⟨c, k, i, f, a, cell, h1, h2, h3, h4, h5, h6, h7, h8, h9, h10⟩ := h
  exact ⟨c, k, i, f, a, cell, h1, h2, h3, h4, h5, h6, h7, h8, h9, fun z => h10 (hAB _ z)⟩
theorem vx_L.word {C n d : String} {A : Nat → Prop} {s : State} {args : Array Value} (h : vx_L C n d A s s.heap) : (Cond.laysStatic C n d).before args s = true := by
  obtain ⟨c, k, i, f, a, cell, h1, h2, h3, h4, h5, h6, h7, h8, h9, -⟩ := h
  show (Cond.laysStatic C n d).holds args s none s [] = true
  exact Cond.laysStatic_of h1 h2 h3 h4 h5 h6 h7 h8 h9
/-- .. and what it holds: null or some reference -/
def vx_Zq (C n d : String) (A : Nat → Prop) (U : State) (H : Heap) : Prop := va_Zq C n d A U H ∧ vx_L C n d A U H
theorem vx_Zq.moved {C n d : String} {A : Nat → Prop} {u U : State} {H : Heap} (hvm : u.vm.Alike U.vm) (h : vx_Zq C n d A u H) : vx_Zq C n d A U H := ⟨va_Zq.moved hvm h.1, vx_L.moved hvm h.2⟩
theorem vx_Zq.kept {C n d : String} {A : Nat → Prop} {U : State} {H H1 : Heap} (h : vx_Zq C n d A U H) (hq : ∀ a : Nat, a < H.size → ¬ A a → H1[a]? = H[a]?) : vx_Zq C n d A U H1 := ⟨va_Zq.kept h.1 hq, vx_L.kept h.2 hq⟩
theorem vx_Zq.narrow {C n d : String} {A B : Nat → Prop} {U : State} {H : Heap} (h : vx_Zq C n d A U H) (hAB : ∀ q, B q → A q) : vx_Zq C n d B U H := ⟨va_Zq.narrow h.1 hAB, vx_L.narrow h.2 hAB⟩
theorem vx_Zqof {args : Array Value} {s : State} {C n d : String} {A : Nat → Prop} (hl : (Cond.laysStatic C n d).before args s = true) (hini : (Cond.initialized C).before args s = true) (h : (Cond.isRef (.static C n d)).before args s = true) (hA : ∀ a : Nat, a < s.heap.size → ¬ A a) : vx_Zq C n d A s s.heap := by
  refine ⟨va_Zqof hl hini h hA, ?_⟩
  obtain ⟨c, k, i, f, a, cell, h1, h2, h3, h4, h5, h6, h7, h8, h9⟩ := Cond.laysStatic_spec hl
  exact ⟨c, k, i, f, a, cell, h1, h2, h3, h4, h5, h6, h7, h8, h9, hA a (Array.getElem?_eq_some_iff.mp h5).1⟩
theorem vx_isRef {C n d : String} {v : Value} {A : Nat → Prop} {s : State} {args : Array Value} (h : va_Z C n d v A s s.heap) (hv : v.isRef = true) : (Cond.isRef (.static C n d)).before args s = true := by
  obtain ⟨cf, kf, fi, f, a, cell, h1, h2, h3, h4, h5, h6, h7, -⟩ := h
  have he : (Term.static C n d).eval args s none [] s = some v := by
    simp [Term.eval, State.fieldNamed?, h1, h2, h4, h5, h6, h7]
  simp only [Cond.before, Cond.holds, Cond.value, he]
  cases v <;> simp_all [Value.isRef]
theorem vx_isRefq {C n d : String} {A : Nat → Prop} {s : State} {args : Array Value} (h : va_Zq C n d A s s.heap) : (Cond.isRef (.static C n d)).before args s = true := by
  rcases h with h | ⟨t, h⟩
  · exact vx_isRef h rfl
  · exact vx_isRef h rfl
/-- the same frame, seen from here: as if the method were called anew in this heap -/
theorem vx_rebase {T : State} (X : Stand p l e R s m args below meth c T locs cells slots) {R' : Room} (hf : R'.frames ≤ R.frames) (hl : R'.locals ≤ R.locals) (hc : cells + R'.cells ≤ R.cells) (hs : slots + R'.slots ≤ R.slots) :
    Stand p l e R' ((T.setVm s.vm).setFrames (.invoking m args :: below)) m args below meth c T [] 0 0 := by
  have htop : (T.setVm s.vm).topJava?.isSome := X.here.top
  have hF : ((T.setVm s.vm).setFrames (.invoking m args :: below)).frames = .invoking m args :: below := State.frames_setFrames _ (State.cur_lt_of_top htop)
  obtain ⟨g₀, hg0⟩ := Option.isSome_iff_exists.mp htop
  obtain ⟨r, hr⟩ := State.topJava?_eq_some.mp hg0
  have hl9 : e.platform.stackLimits (T.setVm s.vm).me = e.platform.stackLimits s.me := X.limits
  have hb9 : (T.setVm s.vm).me.stackBytes = s.me.stackBytes := X.bytes
  refine ⟨X.admits, X.cas, X.clock, hF, ?_, X.hears, X.method, X.code, X.here, X.tail, X.warmed, ?_, ?_, ?_⟩
  · have h := X.room
    have hU : ((T.setVm s.vm).setFrames (.invoking m args :: below)).localsInUse = s.localsInUse := by
      rw [State.localsInUse_invoking hF (meth := meth) (c := c) X.method X.code, State.localsInUse_invoking X.frames X.method X.code]
    simp only [State.hasRoom, Bool.and_eq_true, decide_eq_true_eq] at h ⊢
    obtain ⟨⟨⟨⟨h1, h2, h3, h4, h5, h6⟩, h7⟩, h8⟩, h9⟩ := h
    rw [X.frames, List.length_cons] at h2 h3
    have q1 := X.heapSize
    have q2 := X.used
    simp only [hF, hU, List.length_cons, State.stackLimits_setFrames, State.stackBytes_setFrames, hl9, hb9]
    refine ⟨⟨⟨⟨by omega, by omega, by omega, by omega, by omega, h6⟩, ?_⟩, ?_⟩, X.book⟩
    · show T.heap.size + R'.cells ≤ e.platform.maxCells
      omega
    · show T.slotsUsed + R'.slots ≤ e.platform.maxSlots
      omega
  · rw [State.stackLimits_setFrames]; rfl
  · rw [State.stackBytes_setFrames]; rfl
  · refine ⟨?_, Nat.le_refl _, Nat.le_refl _, ?_, ?_, fun a c9 h9 => ⟨c9, h9, rfl, rfl, fun _ _ => rfl⟩⟩
    · obtain ⟨t, ht, -⟩ := State.frames_cons hr
      show T.setVm s.vm = { ((T.setVm s.vm).setFrames (.invoking m args :: below)).setFrames (T.setVm s.vm).frames with heap := T.heap, slotsUsed := T.slotsUsed }
      rw [State.setFrames_setFrames, State.setFrames_self ht]
      rfl
    · show T.slotsUsed = T.slotsUsed + ((T.heap.toList.drop T.heap.size).map (·.slots.size)).sum
      rw [List.drop_eq_nil_of_le (Nat.le_of_eq Array.length_toList)]
      rfl
    · show ((T.heap.toList.drop T.heap.size).map (·.slots.size)).sum ≤ 0
      rw [List.drop_eq_nil_of_le (Nat.le_of_eq Array.length_toList)]
      exact Nat.le_refl _
/-- 'throw new E()': new; dup; invokespecial; athrow -/
theorem vx_throw0 {cc : ByteArray} {pc : Nat} (hexec : p.tables.exec = Jvm.exec) (hb : c.code = cc) (hl : l.stackTraces = false) {own cls : String} {names : List String} {ik ic mc ms : Nat} {A : Nat → Prop}
    (hown : s.vm.findClass own = some m.cls) (hcls : Bundle.fit cls = true) (hnames : ∀ n ∈ names, Bundle.fit n = true)
    (hk : (Cond.classLink own ik cls).before args s = true) (hini : (Cond.initialized cls).before args s = true) (hat : ∀ w ∈ vx_at0 own ic cls names, w.before args s = true)
    (hgood : ∀ w ∈ Cond.classLink own ik cls :: Cond.initialized cls :: vx_at0 own ic cls names, vx_ot w = true)
    (hU : vx_Zq Bundle.tN "UNASSIGNED_STACK" Bundle.steD A s s.heap) (hN : vx_Zq Bundle.tN "SUPPRESSED_SENTINEL" Bundle.listD A s s.heap) (hS : va_S A s.heap H locs) (hsize : ls.size = c.maxLocals)
    (d0 : decode cc pc = .ok (.new ik, 3)) (d3 : decode cc (pc + 3) = .ok (.dup, 1)) (d4 : decode cc (pc + 4) = .ok (.invokespecial ic, 3)) (d7 : decode cc (pc + 7) = .ok (.athrow, 1))
    (hout : ∀ x ∈ c.exceptionTable.toList, covers x (pc + 7) = false)
    (hRframes : names.length + 3 < R.frames) (hRlocals : (rest.map fun v => v.category).sum + (13 * (names.length + 1) + 42) ≤ R.locals) (hRcells : cells + 1 ≤ R.cells) (hRslots : slots + 6 ≤ R.slots) (hlocks : meth.locks = false)
    (hx : ∀ t : State, s.vm.Alike t.vm → H.size ≤ t.heap.size → (∀ q : Nat, q < H.size → t.heap[q]? = H[q]?) → XC cls s t)
    (hf : ∀ z ∈ locs, free z.base) (hc : cells + 1 ≤ mc) (hs : slots + 6 ≤ ms) :
    W p l e R s m args below meth c H locs cells slots (vx_MQ below Qc XC args s mc ms free) (F0 m pc ls rest) := by
  intro T hT X
  have htr : e.platform.stackTraces = false := (show e.platform.stackTraces = l.stackTraces by rw [X.admits.platform]).trans hl
  have Y := vx_rebase X (R' := { frames := R.frames, locals := R.locals, cells := 1, slots := 6 }) (Nat.le_refl _) (Nat.le_refl _) hRcells hRslots
  obtain ⟨s', hA⟩ : ∃ z, z = (T.setVm s.vm).setFrames (.invoking m args :: below) := ⟨_, rfl⟩
  rw [← hA] at Y
  have hvm : s'.vm = s.vm := by rw [hA]; rfl
  have hhp : s'.heap = H := by rw [hA]; exact hT
  have hW0 : s.WarmedH s'.vm := by rw [hvm]; exact State.WarmedH.refl s
  have hat' : ∀ w ∈ vx_at0 own ic cls names, w.before args s' = true := fun w hw => vx_ot_at hW0 hvm.symm (hgood w (List.mem_cons_of_mem _ (List.mem_cons_of_mem _ hw))) (hat w hw)
  have hk' : (Cond.classLink own ik cls).before args s' = true := vx_ot_at hW0 hvm.symm (hgood _ List.mem_cons_self) hk
  have hini' : (Cond.initialized cls).before args s' = true := vx_ot_at hW0 hvm.symm (hgood _ (List.mem_cons_of_mem _ List.mem_cons_self)) hini
  have hU' : vx_Zq Bundle.tN "UNASSIGNED_STACK" Bundle.steD A s' s'.heap := by rw [hhp]; exact vx_Zq.moved hW0.alike (hU.kept hS.2.1)
  have hN' : vx_Zq Bundle.tN "SUPPRESSED_SENTINEL" Bundle.listD A s' s'.heap := by rw [hhp]; exact vx_Zq.moved hW0.alike (hN.kept hS.2.1)
  have h : ∀ w ∈ Bundle.ownAtoms0 own ic cls names, w.before args s' = true := vx_own hat' (vx_isRefq hU'.1) (vx_isRefq hN'.1) hU'.2.word hN'.2.word
  have hown' : s'.vm.findClass own = some m.cls := by rw [hvm]; exact hown
  have hins : (Cond.instantiable cls 6).before args s' = true := h _ (by simp [Bundle.ownAtoms0])
  obtain ⟨vm₁, cX, kX, hfX, hkX, -, -, X₁, st1⟩ := Y.newCold hexec (own := own) (C := cls) (index := ik) (n := 6) hown' hk' hins hini'
    (g := F0 m pc ls rest) rfl (by rw [hb]; exact d0) (Nat.le_refl _) (Nat.le_refl _)
  generalize hT1 : (T.setVm vm₁).pushCell { cls := cX, slots := kX.instanceTypes.map defaultValue, vm := .none } = T1 at X₁ st1
  have hcat : (Value.ref T.heap.size).category = 1 := rfl
  have hcellA : T1.heap[T.heap.size]? = some (freshCell cX kX) := by rw [← hT1]; exact State.heap_pushCell_size _ _
  have d3' : decode c.code (pc + 3) = .ok (.dup, 1) := by rw [hb]; exact d3
  obtain ⟨U, hsteps, hrun, hend, hW, hsame, ce, hce, hO⟩ := X₁.ctorThrow0 hexec htr (own := own) (cls := cls) (names := names) (ic := ic) hown' hcls hnames h (fun x hx => nomatch hx) hfX hkX hcellA (by rw [hhp, hT]; exact Nat.le_refl _)
    (g := { method := m, pc := pc + 4, locals := ls, stack := .ref T.heap.size :: .ref T.heap.size :: rest, locked := none }) rfl hsize rfl rfl (rest := rest) rfl
    (by rw [hb]; exact d4) (by rw [hb]; exact d7) hout hRframes (by simp only [List.map_cons, List.sum_cons, hcat]; omega) hlocks
  obtain ⟨f1, f2⟩ := vx_frame hsame
  rw [hhp] at f1 f2
  have hWs : s.WarmedH U.vm := State.WarmedH.trans hW0 hW
  have hcl : s.vm.findClass cls = some ce.cls := by
    have h9 := hO.cls
    rw [hvm] at h9
    exact h9
  have hall : s.sameButNew ({ U with vm := s.vm } : State) locs mc ms := by
    subst hA
    obtain ⟨e1, e2⟩ := hsame
    rw [State.setFrames_setFrames] at e1
    have h2 : (T.setVm s.vm).sameButNew ({ U with vm := s.vm } : State) [] (0 + 1) (0 + 6) := ⟨e1, e2⟩
    have h3 := X.same.trans h2
    rw [List.append_nil] at h3
    exact h3.mono hc hs
  refine ⟨U, ?_, .threw T.heap.size, hrun, hend, Or.inr ⟨T.heap.size, rfl, cls, ce, locs, hx U hWs.alike f1 (fun q hq => f2 q hq (fun z hz => nomatch hz)), hce, hO.vm, hcl, hWs, hall, hf⟩⟩
  refine st1 _ ?_
  show Steps p.tables e below (T1.setTop { method := m, pc := pc + 3, locals := ls, stack := .ref T.heap.size :: rest, locked := none }) _
  jvm_step X₁.here [X₁.here.top, hexec, d3', Value.category]
  exact hsteps
/-- 'throw new E("text")': new; dup; ldc; invokespecial; athrow -/
theorem vx_throwS {cc : ByteArray} {pc : Nat} (hexec : p.tables.exec = Jvm.exec) (hb : c.code = cc) (hl : l.stackTraces = false) {own cls text : String} {names : List String} {ik is ic mc ms sa : Nat} {A : Nat → Prop}
    (hown : s.vm.findClass own = some m.cls) (hcls : Bundle.fit cls = true) (hnames : ∀ n ∈ names, Bundle.fit n = true)
    (hk : (Cond.classLink own ik cls).before args s = true) (hini : (Cond.initialized cls).before args s = true) (hstr : vk_R own is text sa s) (hat : ∀ w ∈ vx_atS own ic cls names, w.before args s = true)
    (hgood : ∀ w ∈ Cond.classLink own ik cls :: Cond.initialized cls :: vx_atS own ic cls names, vx_ot w = true)
    (hU : vx_Zq Bundle.tN "UNASSIGNED_STACK" Bundle.steD A s s.heap) (hN : vx_Zq Bundle.tN "SUPPRESSED_SENTINEL" Bundle.listD A s s.heap) (hS : va_S A s.heap H locs) (hsize : ls.size = c.maxLocals)
    (d0 : decode cc pc = .ok (.new ik, 3)) (d3 : decode cc (pc + 3) = .ok (.dup, 1)) (d4 : decode cc (pc + 4) = .ok (.ldc is, 2)) (d6 : decode cc (pc + 6) = .ok (.invokespecial ic, 3)) (d9 : decode cc (pc + 9) = .ok (.athrow, 1))
    (hout : ∀ x ∈ c.exceptionTable.toList, covers x (pc + 9) = false)
    (hRframes : names.length + 3 < R.frames) (hRlocals : (rest.map fun v => v.category).sum + (13 * (names.length + 1) + 43) ≤ R.locals) (hRcells : cells + 1 ≤ R.cells) (hRslots : slots + 6 ≤ R.slots) (hlocks : meth.locks = false)
    (hx : ∀ t : State, s.vm.Alike t.vm → H.size ≤ t.heap.size → (∀ q : Nat, q < H.size → t.heap[q]? = H[q]?) → XC cls s t)
    (hf : ∀ z ∈ locs, free z.base) (hc : cells + 1 ≤ mc) (hs : slots + 6 ≤ ms) :
    W p l e R s m args below meth c H locs cells slots (vx_MQ below Qc XC args s mc ms free) (F0 m pc ls rest) := by
  intro T hT X
  have htr : e.platform.stackTraces = false := (show e.platform.stackTraces = l.stackTraces by rw [X.admits.platform]).trans hl
  have Y := vx_rebase X (R' := { frames := R.frames, locals := R.locals, cells := 1, slots := 6 }) (Nat.le_refl _) (Nat.le_refl _) hRcells hRslots
  obtain ⟨s', hA⟩ : ∃ z, z = (T.setVm s.vm).setFrames (.invoking m args :: below) := ⟨_, rfl⟩
  rw [← hA] at Y
  have hvm : s'.vm = s.vm := by rw [hA]; rfl
  have hhp : s'.heap = H := by rw [hA]; exact hT
  have hW0 : s.WarmedH s'.vm := by rw [hvm]; exact State.WarmedH.refl s
  have hat' : ∀ w ∈ vx_atS own ic cls names, w.before args s' = true := fun w hw => vx_ot_at hW0 hvm.symm (hgood w (List.mem_cons_of_mem _ (List.mem_cons_of_mem _ hw))) (hat w hw)
  have hk' : (Cond.classLink own ik cls).before args s' = true := vx_ot_at hW0 hvm.symm (hgood _ List.mem_cons_self) hk
  have hini' : (Cond.initialized cls).before args s' = true := vx_ot_at hW0 hvm.symm (hgood _ (List.mem_cons_of_mem _ List.mem_cons_self)) hini
  have hU' : vx_Zq Bundle.tN "UNASSIGNED_STACK" Bundle.steD A s' s'.heap := by rw [hhp]; exact vx_Zq.moved hW0.alike (hU.kept hS.2.1)
  have hN' : vx_Zq Bundle.tN "SUPPRESSED_SENTINEL" Bundle.listD A s' s'.heap := by rw [hhp]; exact vx_Zq.moved hW0.alike (hN.kept hS.2.1)
  have h : ∀ w ∈ Bundle.ownAtoms own ic cls names, w.before args s' = true := vx_own hat' (vx_isRefq hU'.1) (vx_isRefq hN'.1) hU'.2.word hN'.2.word
  have hown' : s'.vm.findClass own = some m.cls := by rw [hvm]; exact hown
  have hins : (Cond.instantiable cls 6).before args s' = true := h _ (by simp [Bundle.ownAtoms])
  obtain ⟨vm₁, cX, kX, hfX, hkX, -, -, X₁, st1⟩ := Y.newCold hexec (own := own) (C := cls) (index := ik) (n := 6) hown' hk' hins hini'
    (g := F0 m pc ls rest) rfl (by rw [hb]; exact d0) (Nat.le_refl _) (Nat.le_refl _)
  generalize hT1 : (T.setVm vm₁).pushCell { cls := cX, slots := kX.instanceTypes.map defaultValue, vm := .none } = T1 at X₁ st1
  have hcat : (Value.ref T.heap.size).category = 1 := rfl
  have hcellA : T1.heap[T.heap.size]? = some (freshCell cX kX) := by rw [← hT1]; exact State.heap_pushCell_size _ _
  have d3' : decode c.code (pc + 3) = .ok (.dup, 1) := by rw [hb]; exact d3
  have d4' : decode c.code (pc + 4) = .ok (.ldc is, 2) := by rw [hb]; exact d4
  have hstr' : vk_R own is text sa s' := vk_R.warm hW0 hstr
  obtain ⟨U, hsteps, hrun, hend, hW, hsame, ce, hce, hO⟩ := X₁.ctorThrowS hexec htr (own := own) (cls := cls) (names := names) (ic := ic) hown' hcls hnames h (fun x hx => nomatch hx) hfX hkX hcellA (by rw [hhp, hT]; exact Nat.le_refl _) (msg := .ref sa) rfl
    (g := { method := m, pc := pc + 6, locals := ls, stack := .ref sa :: .ref T.heap.size :: .ref T.heap.size :: rest, locked := none }) rfl hsize rfl rfl (rest := rest) rfl
    (by rw [hb]; exact d6) (by rw [hb]; exact d9) hout hRframes (by simp only [List.map_cons, List.sum_cons, hcat]; omega) hlocks
  obtain ⟨f1, f2⟩ := vx_frame hsame
  rw [hhp] at f1 f2
  have hWs : s.WarmedH U.vm := State.WarmedH.trans hW0 hW
  have hcl : s.vm.findClass cls = some ce.cls := by
    have h9 := hO.cls
    rw [hvm] at h9
    exact h9
  have hall : s.sameButNew ({ U with vm := s.vm } : State) locs mc ms := by
    subst hA
    obtain ⟨e1, e2⟩ := hsame
    rw [State.setFrames_setFrames] at e1
    have h2 : (T.setVm s.vm).sameButNew ({ U with vm := s.vm } : State) [] (0 + 1) (0 + 6) := ⟨e1, e2⟩
    have h3 := X.same.trans h2
    rw [List.append_nil] at h3
    exact h3.mono hc hs
  refine ⟨U, ?_, .threw T.heap.size, hrun, hend, Or.inr ⟨T.heap.size, rfl, cls, ce, locs, hx U hWs.alike f1 (fun q hq => f2 q hq (fun z hz => nomatch hz)), hce, hO.vm, hcl, hWs, hall, hf⟩⟩
  refine st1 _ ?_
  show Steps p.tables e below (T1.setTop { method := m, pc := pc + 3, locals := ls, stack := .ref T.heap.size :: rest, locked := none }) _
  jvm_step X₁.here [X₁.here.top, hexec, d3', Value.category]
  exact X₁.ldcString hexec (own := own) (text := text) (index := is) (a := sa) hown' hstr'.1 hstr'.2
    (g := { method := m, pc := pc + 4, locals := ls, stack := .ref T.heap.size :: .ref T.heap.size :: rest, locked := none }) rfl d4' _ hsteps
/-- 'throw new E("text")', the text by a wide index -/
theorem vx_throwSW {cc : ByteArray} {pc : Nat} (hexec : p.tables.exec = Jvm.exec) (hb : c.code = cc) (hl : l.stackTraces = false) {own cls text : String} {names : List String} {ik is ic mc ms sa : Nat} {A : Nat → Prop}
    (hown : s.vm.findClass own = some m.cls) (hcls : Bundle.fit cls = true) (hnames : ∀ n ∈ names, Bundle.fit n = true)
    (hk : (Cond.classLink own ik cls).before args s = true) (hini : (Cond.initialized cls).before args s = true) (hstr : vk_R own is text sa s) (hat : ∀ w ∈ vx_atS own ic cls names, w.before args s = true)
    (hgood : ∀ w ∈ Cond.classLink own ik cls :: Cond.initialized cls :: vx_atS own ic cls names, vx_ot w = true)
    (hU : vx_Zq Bundle.tN "UNASSIGNED_STACK" Bundle.steD A s s.heap) (hN : vx_Zq Bundle.tN "SUPPRESSED_SENTINEL" Bundle.listD A s s.heap) (hS : va_S A s.heap H locs) (hsize : ls.size = c.maxLocals)
    (d0 : decode cc pc = .ok (.new ik, 3)) (d3 : decode cc (pc + 3) = .ok (.dup, 1)) (d4 : decode cc (pc + 4) = .ok (.ldc_w is, 3)) (d7 : decode cc (pc + 7) = .ok (.invokespecial ic, 3)) (d10 : decode cc (pc + 10) = .ok (.athrow, 1))
    (hout : ∀ x ∈ c.exceptionTable.toList, covers x (pc + 10) = false)
    (hRframes : names.length + 3 < R.frames) (hRlocals : (rest.map fun v => v.category).sum + (13 * (names.length + 1) + 43) ≤ R.locals) (hRcells : cells + 1 ≤ R.cells) (hRslots : slots + 6 ≤ R.slots) (hlocks : meth.locks = false)
    (hx : ∀ t : State, s.vm.Alike t.vm → H.size ≤ t.heap.size → (∀ q : Nat, q < H.size → t.heap[q]? = H[q]?) → XC cls s t)
    (hf : ∀ z ∈ locs, free z.base) (hc : cells + 1 ≤ mc) (hs : slots + 6 ≤ ms) :
    W p l e R s m args below meth c H locs cells slots (vx_MQ below Qc XC args s mc ms free) (F0 m pc ls rest) := by
  intro T hT X
  have htr : e.platform.stackTraces = false := (show e.platform.stackTraces = l.stackTraces by rw [X.admits.platform]).trans hl
  have Y := vx_rebase X (R' := { frames := R.frames, locals := R.locals, cells := 1, slots := 6 }) (Nat.le_refl _) (Nat.le_refl _) hRcells hRslots
  obtain ⟨s', hA⟩ : ∃ z, z = (T.setVm s.vm).setFrames (.invoking m args :: below) := ⟨_, rfl⟩
  rw [← hA] at Y
  have hvm : s'.vm = s.vm := by rw [hA]; rfl
  have hhp : s'.heap = H := by rw [hA]; exact hT
  have hW0 : s.WarmedH s'.vm := by rw [hvm]; exact State.WarmedH.refl s
  have hat' : ∀ w ∈ vx_atS own ic cls names, w.before args s' = true := fun w hw => vx_ot_at hW0 hvm.symm (hgood w (List.mem_cons_of_mem _ (List.mem_cons_of_mem _ hw))) (hat w hw)
  have hk' : (Cond.classLink own ik cls).before args s' = true := vx_ot_at hW0 hvm.symm (hgood _ List.mem_cons_self) hk
  have hini' : (Cond.initialized cls).before args s' = true := vx_ot_at hW0 hvm.symm (hgood _ (List.mem_cons_of_mem _ List.mem_cons_self)) hini
  have hU' : vx_Zq Bundle.tN "UNASSIGNED_STACK" Bundle.steD A s' s'.heap := by rw [hhp]; exact vx_Zq.moved hW0.alike (hU.kept hS.2.1)
  have hN' : vx_Zq Bundle.tN "SUPPRESSED_SENTINEL" Bundle.listD A s' s'.heap := by rw [hhp]; exact vx_Zq.moved hW0.alike (hN.kept hS.2.1)
  have h : ∀ w ∈ Bundle.ownAtoms own ic cls names, w.before args s' = true := vx_own hat' (vx_isRefq hU'.1) (vx_isRefq hN'.1) hU'.2.word hN'.2.word
  have hown' : s'.vm.findClass own = some m.cls := by rw [hvm]; exact hown
  have hins : (Cond.instantiable cls 6).before args s' = true := h _ (by simp [Bundle.ownAtoms])
  obtain ⟨vm₁, cX, kX, hfX, hkX, -, -, X₁, st1⟩ := Y.newCold hexec (own := own) (C := cls) (index := ik) (n := 6) hown' hk' hins hini'
    (g := F0 m pc ls rest) rfl (by rw [hb]; exact d0) (Nat.le_refl _) (Nat.le_refl _)
  generalize hT1 : (T.setVm vm₁).pushCell { cls := cX, slots := kX.instanceTypes.map defaultValue, vm := .none } = T1 at X₁ st1
  have hcat : (Value.ref T.heap.size).category = 1 := rfl
  have hcellA : T1.heap[T.heap.size]? = some (freshCell cX kX) := by rw [← hT1]; exact State.heap_pushCell_size _ _
  have d3' : decode c.code (pc + 3) = .ok (.dup, 1) := by rw [hb]; exact d3
  have d4' : decode c.code (pc + 4) = .ok (.ldc_w is, 3) := by rw [hb]; exact d4
  have hstr' : vk_R own is text sa s' := vk_R.warm hW0 hstr
  obtain ⟨U, hsteps, hrun, hend, hW, hsame, ce, hce, hO⟩ := X₁.ctorThrowS hexec htr (own := own) (cls := cls) (names := names) (ic := ic) hown' hcls hnames h (fun x hx => nomatch hx) hfX hkX hcellA (by rw [hhp, hT]; exact Nat.le_refl _) (msg := .ref sa) rfl
    (g := { method := m, pc := pc + 7, locals := ls, stack := .ref sa :: .ref T.heap.size :: .ref T.heap.size :: rest, locked := none }) rfl hsize rfl rfl (rest := rest) rfl
    (by rw [hb]; exact d7) (by rw [hb]; exact d10) hout hRframes (by simp only [List.map_cons, List.sum_cons, hcat]; omega) hlocks
  obtain ⟨f1, f2⟩ := vx_frame hsame
  rw [hhp] at f1 f2
  have hWs : s.WarmedH U.vm := State.WarmedH.trans hW0 hW
  have hcl : s.vm.findClass cls = some ce.cls := by
    have h9 := hO.cls
    rw [hvm] at h9
    exact h9
  have hall : s.sameButNew ({ U with vm := s.vm } : State) locs mc ms := by
    subst hA
    obtain ⟨e1, e2⟩ := hsame
    rw [State.setFrames_setFrames] at e1
    have h2 : (T.setVm s.vm).sameButNew ({ U with vm := s.vm } : State) [] (0 + 1) (0 + 6) := ⟨e1, e2⟩
    have h3 := X.same.trans h2
    rw [List.append_nil] at h3
    exact h3.mono hc hs
  refine ⟨U, ?_, .threw T.heap.size, hrun, hend, Or.inr ⟨T.heap.size, rfl, cls, ce, locs, hx U hWs.alike f1 (fun q hq => f2 q hq (fun z hz => nomatch hz)), hce, hO.vm, hcl, hWs, hall, hf⟩⟩
  refine st1 _ ?_
  show Steps p.tables e below (T1.setTop { method := m, pc := pc + 3, locals := ls, stack := .ref T.heap.size :: rest, locked := none }) _
  jvm_step X₁.here [X₁.here.top, hexec, d3', Value.category]
  exact X₁.ldcStringW hexec (own := own) (text := text) (index := is) (a := sa) hown' hstr'.1 hstr'.2
    (g := { method := m, pc := pc + 4, locals := ls, stack := .ref T.heap.size :: .ref T.heap.size :: rest, locked := none }) rfl d4' _ hsteps
end Ends
section Bodies
variable {l : Launch}
theorem vx_ofW {y : MethodName} {ws ws' : List Cond} {rm : Room} {Pc : Array Value → State → Prop} {Qc : Array Value → State → Outcome → State → Prop} {XC : String → State → State → Prop} {mc ms : Nat} {free : Addr → Prop} {cc : ByteArray} {maxL : Nat} {ret : Option FieldType}
    (hy : plainName y.cls = true) (hw : ws = Cond.code y cc maxL ret :: ws')
    (body : ∀ p e s m args below meth c s₁, BodyLoose p l y (headSpec ws rm) cc maxL ret e s m args below meth c s₁ → c.maxLocals = maxL → (∀ x ∈ c.exceptionTable.toList, False) → Pc args s →
      W p l e (headSpec ws rm).room s m args below meth c s.heap [] 0 0 (vx_MQ below Qc XC args s mc ms free) (entryFrame m args maxL)) : vx_Met l y ws rm Pc Qc XC mc ms free := by
  refine MetFree.of_bodyS (code := cc) (maxLocals := maxL) (ret := ret) hy ?_ ?_
  · intro args s m h hn
    obtain ⟨meth, c, h1, h2, h3, h4, h5, h6, -, -⟩ := Cond.code_spec hn (atoms_spec (ws := ws) h _ (by rw [hw]; exact List.mem_cons_self))
    exact ⟨meth, c, h1, h2, h3, h4, h5, h6⟩
  · intro p e s m args below meth c s₁ B hml hP _
    have hh0 : s₁.heap = s.heap := by rw [B.state]; rfl
    have ht : ∀ x ∈ c.exceptionTable.toList, False := by
      obtain ⟨meth9, c9, h1, h2, -, -, -, -, h7, -⟩ := Cond.code_spec B.named (atoms_spec (ws := ws) B.pre _ (by rw [hw]; exact List.mem_cons_self))
      cases Option.some.inj (h1.symm.trans B.method)
      cases Option.some.inj (h2.symm.trans (Stand.of_body B).code)
      intro x hx
      rw [Array.isEmpty_iff.mp h7] at hx
      cases hx
    obtain ⟨t, a1, o, b1, b2, b3⟩ := body p e s m args below meth c s₁ B hml ht hP s₁ hh0 (Stand.of_body B)
    exact ⟨t, o, a1, b1, b2, b3⟩
/-- the table of a body with handlers -/
theorem vx_table {p : Program} {x y : MethodName} {S : Spec} {cc bytes : ByteArray} {maxL maxL' : Nat} {ret ret' : Option FieldType} {e : Env} {s s₁ : State} {m : MethodId} {args : Array Value} {below : List Frame} {meth : Method} {c : Code} {hh : List (Nat × Nat × Nat × Nat)}
    (B : BodyLoose p l y S cc maxL ret e s m args below meth c s₁) (h : (Cond.codeWith y bytes maxL' ret' hh).before args s = true) : c.exceptionTable.toList = tableOf hh := by
  obtain ⟨m9, meth9, c9, hn9, h1, h2, -, -, h6, -⟩ := Cond.codeWith_spec h
  cases Option.some.inj (hn9.symm.trans B.named)
  cases Option.some.inj (h1.symm.trans B.method)
  cases Option.some.inj (h2.symm.trans (Stand.of_body B).code)
  rw [← h6, table_eq]
end Bodies
end VXA
/-! ===== END ===== -/
/-! ===== BEGIN a static call of a method with an exception table ===== -/
section VXS
variable {p : Program} {l : Launch} {e : Env} {R : Room} {s : State} {m : MethodId} {args : Array Value} {below : List Frame} {meth : Method} {c : Code} {T : State} {H : Heap} {locs : List Loc} {cells slots : Nat}
abbrev vx_CSW (R : Room) (s : State) (args : Array Value) (own : String) (index : Nat) (y : MethodName) (bytes : ByteArray) (maxL : Nat) (ret : Option FieldType) (hh : List (Nat × Nat × Nat × Nat)) (ws : List Cond) (rm : Room) (mc ms n : Nat) : Prop :=
  (rm.cells = mc ∧ rm.slots = ms ∧ rm.frames + 1 ≤ R.frames ∧ 8 + (maxL + 11) + rm.locals ≤ R.locals ∧ (∀ w ∈ ws, ∀ (a' : Array Value) (U : State), s.WarmedH U.vm → w.before a' U = true) ∧ Cond.codeWith y bytes maxL ret hh ∈ ws) ∧
  (Cond.codeWith y bytes maxL ret hh).before args s = true ∧ (Cond.initialized y.cls).before args s = true ∧ (y.cls ≠ "java/lang/invoke/MethodHandle" ∧ y.cls ≠ "java/lang/invoke/VarHandle") ∧
  (∀ sig, parseMethodDescriptor y.desc = some sig → n = sig.parameters.length) ∧ (Cond.methodLink own index y).before args s = true ∧ (Cond.static y).before args s = true
theorem vx_cwSW {own : String} {index maxL mc ms : Nat} {y : MethodName} {bytes : ByteArray} {ret : Option FieldType} {hh : List (Nat × Nat × Nat × Nat)} {Ts ws ws' : List Cond} {rm : Room} (n : Nat) (ht : ∀ w ∈ Ts, w.before args s = true) (hT : GoodIn Ts (va_wsS own index y ws)) (hw : ws = Cond.codeWith y bytes maxL ret hh :: ws') (hrc : rm.cells = mc) (hrs : rm.slots = ms)
    (hd : y.cls ≠ "java/lang/invoke/MethodHandle" ∧ y.cls ≠ "java/lang/invoke/VarHandle" ∧ (parseMethodDescriptor y.desc).map (fun d => d.parameters.length) = some n) (hR : rm.frames + 1 ≤ R.frames ∧ 8 + (maxL + 11) + rm.locals ≤ R.locals) :
    vx_CSW R s args own index y bytes maxL ret hh ws rm mc ms n := by
  have ok : ∀ w ∈ va_wsS own index y ws, w.before args s = true := fun w h => ht w (hT w h).1
  have hG : GoodIn Ts ws := fun w h => hT w (by unfold va_wsS; exact List.mem_append_right _ h)
  have hc : Cond.codeWith y bytes maxL ret hh ∈ ws := by rw [hw]; exact List.mem_cons_self
  refine ⟨⟨hrc, hrs, hR.1, hR.2, pay_in ht hG, hc⟩, ht _ (hG _ hc).1, ok _ (by simp [va_wsS]), ⟨hd.1, hd.2.1⟩, fun sig h => ?_, ok _ (by simp [va_wsS]), ok _ (by simp [va_wsS])⟩
  have h2 := hd.2.2
  rw [h] at h2
  exact (Option.some.inj h2).symm
theorem vx_callSW (X : Stand p l e R s m args below meth c T locs cells slots) (hexec : p.tables.exec = Jvm.exec) {own : String} {index : Nat} {y : MethodName} {bytes : ByteArray} {maxL : Nat} {ret : Option FieldType} {hh : List (Nat × Nat × Nat × Nat)}
    (hown : s.vm.findClass own = some m.cls) (hlink : (Cond.methodLink own index y).before args s = true) (hstat : (Cond.static y).before args s = true) (hinit : (Cond.initialized y.cls).before args s = true)
    (hcode : (Cond.codeWith y bytes maxL ret hh).before args s = true) (hy : y.cls ≠ "java/lang/invoke/MethodHandle" ∧ y.cls ≠ "java/lang/invoke/VarHandle")
    {W9 : Nat} {Pre : Pt → Array Value → Prop} {Post : Pt → Array Value → Option Value → Pt → Prop} (hK : Back l R p e below s args y 3 W9 Pre Post)
    {g : JFrame} (hg : g.method = m) (hsize : g.locals.size = c.maxLocals) {argsL rest : List Value} (hlen : ∀ sig, parseMethodDescriptor y.desc = some sig → argsL.length = sig.parameters.length)
    (hstack : g.stack = argsL.reverse ++ rest) (hW : 2 * g.monitorRoom + (rest.map fun v => v.category).sum ≤ W9) (hdg : decode c.code g.pc = .ok (.invokestatic index, 3))
    (hpre : ∀ vm₁, s.WarmedH vm₁ → Pre ⟨T.setVm vm₁, locs, cells, slots⟩ argsL.toArray) :
    ∃ (v : Option Value) (vm₁ : Vm) (B : Pt), s.WarmedH vm₁ ∧ Stand p l e R s m args below meth c B.U B.locs B.cells B.slots ∧ Post ⟨T.setVm vm₁, locs, cells, slots⟩ argsL.toArray v B ∧
      ∀ target, Steps p.tables e below (B.U.setTop { g with pc := g.pc + 3, stack := v.toList ++ rest }) target → Steps p.tables e below (T.setTop g) target := by
  obtain ⟨mk, methM, cM, hnamed, hmethM, -, -, -, -, -, -, hsigM⟩ := Cond.codeWith_spec hcode
  have hstatic : methM.isStatic = true := Cond.static_spec hnamed hmethM hstat
  obtain ⟨kP, hkP, -⟩ := className_of_methodNamed hnamed
  have hinitP : kP.init = .initialized := Cond.initialized_spec (findClass_of_methodNamed hnamed) hkP hinit
  obtain ⟨vm₁, X₁, hstep₁⟩ := X.invokestatic hexec hown hlink hnamed hmethM hstatic hkP hinitP hy (g := g) hg (argsL := argsL) (rest := rest) (hlen _ hsigM) hstack hdg
  obtain ⟨v, B, X', hpost, hsteps⟩ := hK m meth c ⟨T.setVm vm₁, locs, cells, slots⟩ { g with stack := rest } (.invokestatic index) mk argsL.toArray X₁ hg hsize hdg hW (X₁.named hnamed) (hpre vm₁ X₁.warmed)
  exact ⟨v, vm₁, B, X₁.warmed, X', hpost, fun target h => hstep₁ _ fun acts => by rw [doInvoke_state]; exact hsteps.trans h⟩
theorem vx_runSW {y : MethodName} {bytes cc : ByteArray} {maxL nL mc ms n index : Nat} {ret : Option FieldType} {hh : List (Nat × Nat × Nat × Nat)} {ws : List Cond} {rm : Room} {Pc : Array Value → State → Prop} {Qc : Array Value → State → Outcome → State → Prop} {free : Addr → Prop} {Ts : List Cond} {own : String} {As rest : List Value} {g : JFrame}
    (S : CallFix p m c cc nL s args Ts own) (hM : Met l y ws rm Pc Qc mc ms free) (cw : vx_CSW R s args own index y bytes maxL ret hh ws rm mc ms n) (hp : PreS s H Pc As)
    (hg : g.method = m) (hn : As.length = n) (hsize : g.locals.size = nL) (hstack : g.stack = As.reverse ++ rest) (hW : 2 * g.monitorRoom + (rest.map fun v => v.category).sum ≤ 8) (hdg : decode cc g.pc = .ok (.invokestatic index, 3)) (hf : cells + mc ≤ R.cells ∧ slots + ms ≤ R.slots) :
    va_Run p l e R s m args below meth c H locs cells slots mc ms g rest (Qc As.toArray) (free) := by
  obtain ⟨⟨hrc, hrs, hfr, hlo, hws, hcw⟩, hcode, hini, hy, hlen, hl, hstt⟩ := cw
  have hK : Back l R p e below s args y 3 8 (PreOf R mc ms Pc) (PostOf Qc mc ms free) := va_backW (hh := hh) (bytes := bytes) (maxL := maxL) (ret := ret) hM hp.1 hrc hrs hfr hlo hws hcw (fun a' U hW => word_at hW (Or.inl (by first | rfl | simp [Cond.onTables, Cond.keeps, Cond.steady])) hini)
  obtain ⟨hx, hb, hml, ho, -⟩ := S
  intro T hT X
  obtain ⟨v, vm₁, ⟨U', l2, c2, s2⟩, hW₁, X', ⟨g', mk, t, L, e1, e2, hq, h1, hL, h2, h3⟩, st⟩ := vx_callSW X hx (hh := hh) (bytes := bytes) (maxL := maxL) (ret := ret) ho hl hstt hini hcode hy hK hg (hsize.trans hml.symm) (argsL := As) (rest := rest) (fun sig h => hn.trans (hlen sig h)) hstack hW (by rw [hb]; exact hdg)
    (fun vm₁ hW₁ => ⟨hf.1, hf.2, hp.2 (T.setVm vm₁) hT hW₁⟩)
  dsimp only [Pt.U, Pt.locs, Pt.cells, Pt.slots] at X' e1 e2 h1 h2 h3 st
  subst h1; subst h2; subst h3
  exact ⟨v, (T.setVm vm₁).calling g' mk As.toArray, t, U', L, hT, X', hL, e1, e2, hq, st⟩
/-- not caught here, past rows that name other classes: it goes on to the caller -/
theorem vx_outP {p : Program} {l : Launch} {e : Env} {R : Room} {s : State} {m : MethodId} {args : Array Value} {below : List Frame} {meth : Method} {c : Code} {H : Heap} {locs : List Loc} {cells slots : Nat} {free : Addr → Prop} {ls : Array Slot} {rest : List Value} {Qc : Array Value → State → Outcome → State → Prop} {XC : String → State → State → Prop}
    {pc : Nat} {own E : String} {ce : Cell} {q : Addr} {mc ms : Nat} (hown : s.vm.findClass own = some m.cls) (hlocks : meth.locks = false)
    (hpass : ∀ z ∈ c.exceptionTable.toList, covers z pc = false ∨ (z.catchType ≠ 0 ∧ ∃ nm : String, (Cond.classLink own z.catchType nm).before args s = true ∧ va_Nc E nm s)) (hcell : H[q]? = some ce) (hv : ce.vm = .none) (hcl : s.vm.findClass E = some ce.cls)
    (hx : ∀ t : State, t.heap = H → s.vm.Alike t.vm → XC E s t) (hf : ∀ z ∈ locs, free z.base) (hc : cells ≤ mc) (hs : slots ≤ ms) :
    vx_W p l e R s m args below meth c H locs cells slots (vx_MQ below Qc XC args s mc ms free) (F0 m pc ls rest) q := by
  intro T hT X
  have hpl : e.platform.magicAccessors = ({} : Platform).magicAccessors := by rw [X.admits.platform]
  obtain ⟨vm', hW', X', st⟩ := X.outThrough hlocks q (g := F0 m pc ls rest) rfl rfl rfl (cell := ce) (by rw [hT]; exact hcell) (by rw [hv]; rfl)
    (by obtain ⟨k9, h9, -⟩ := Vm.findClass_spec hcl; exact ⟨k9, h9⟩) (fun z hz => by
      rcases hpass z hz with h | ⟨hz0, nm, hl1, hn1⟩
      · exact Or.inl h
      · obtain ⟨c6, hc6, hcl6⟩ := Cond.classLink_spec hown hl1 e.platform hpl
        obtain ⟨a8, b8, h1, h2, h3⟩ := hn1
        cases Option.some.inj (h1.symm.trans hcl)
        cases Option.some.inj (h2.symm.trans hc6)
        exact Or.inr ⟨hz0, _, hcl6, h3⟩)
  obtain ⟨g₀, hfr⟩ := X'.frames_eq
  have hcell9 : ((T.setVm vm').setFrames (.throwing q :: below)).heap[q]? = some ce := by
    show T.heap[q]? = some ce
    rw [hT]; exact hcell
  have hend : Ended ((T.setVm vm').setFrames (.throwing q :: below)) below (.threw q) := State.frames_setFrames _ (State.cur_lt_of_frames hfr)
  refine ⟨(T.setVm vm').setFrames (.throwing q :: below), ?_, .threw q, X'.here.running, hend, Or.inr ⟨q, rfl, E, ce, locs, hx _ hT (X'.ends _).1.alike, hcell9, hv, hcl, (X'.ends _).1, (X'.ends _).2.mono hc hs, hf⟩⟩
  rw [X.pushThrowing_eq]
  exact st
/-- a thing of a world lies in the heap -/
theorem vx_lt {D : va_G} {cl : List vw_C} {ws : va_W} {H1 : Heap} (h : va_P D cl ws H1) {k : Nat} {q : Nat × va_E} (hk : ws[k]? = some q) : q.1 < H1.size := (h k q hk).lt
end VXS
/-! ===== END ===== -/
/-! ===== BEGIN methods with a table of their own: called by a name, returning or throwing ===== -/
section VXH
/-! vx_backW, vx_callVX, vx_callSX, vx_callVW, vx_runVW, vx_runVX, vx_runSX, vx_ofWH follow the same proofs as their sisters above (Free/Laws.lean, Shelf42/LK1.lean); vx_outP calls Shelf42/NT130.lean (outThrough). -/
section
variable {l : Launch} {R : Room} {p : Program} {e : Env} {below : List Frame} {s : State} {sargs : Array Value} {y : MethodName} {len W9 : Nat}
theorem vx_backW {ws : List Cond} {rm : Room} {Pc : Array Value → State → Prop} {Qc : Array Value → State → Outcome → State → Prop} {XC : String → State → State → Prop} {mc ms : Nat} {free : Addr → Prop} {bytes : ByteArray} {maxL : Nat} {ret : Option FieldType} {hh : List (Nat × Nat × Nat × Nat)}
    (hM : vx_Met l y ws rm Pc Qc XC mc ms free) (hblind : FrameBlind Pc) (hrc : rm.cells = mc) (hrs : rm.slots = ms)
    (hframes : rm.frames + 1 ≤ R.frames) (hlocals : W9 + (maxL + 11) + rm.locals ≤ R.locals)
    (hws : ∀ w ∈ ws, ∀ a' U, s.WarmedH U.vm → w.before a' U = true) (hcode : Cond.codeWith y bytes maxL ret hh ∈ ws) (hinit : ∀ a' U, s.WarmedH U.vm → (Cond.initialized y.cls).before a' U = true) :
    vx_Back l R p e below s sargs y len W9 (PreOf R mc ms Pc) (PostOf Qc mc ms free) (vx_Post XC mc ms free) := by
  intro m meth c A g ig mk a X hg hsize hdg hW hn hp
  have h1 : (headSpec ws rm).pre.before a A.U = true := atoms_intro fun w hw => hws w hw _ _ X.warmed
  have h2 : (Cond.codeWith y bytes maxL ret hh).before a A.U = true := hws _ hcode _ _ X.warmed
  have h3 : (Cond.initialized y.cls).before a A.U = true := hinit _ _ X.warmed
  have h4 : A.cells + (headSpec ws rm).room.cells ≤ R.cells := by rw [show (headSpec ws rm).room.cells = mc from hrc]; exact hp.1
  have h5 : A.slots + (headSpec ws rm).room.slots ≤ R.slots := by rw [show (headSpec ws rm).room.slots = ms from hrs]; exact hp.2.1
  have hPc : Pc a (A.U.calling g mk a) := hblind _ _ _ _ hp.2.2
  obtain ⟨U, Ls, c0, s0⟩ := A
  dsimp only [Pt.U, Pt.locs, Pt.cells, Pt.slots] at h1 h2 h3 h4 h5 X hn hPc ⊢
  obtain ⟨m9, methY, cY, hn9, hmY, hcY, -, hlY, -⟩ := Cond.codeWith_spec h2
  cases Option.some.inj (hn9.symm.trans hn)
  obtain ⟨kY, hkY, -⟩ := className_of_methodNamed hn
  have hinitY : kY.init = .initialized := Cond.initialized_spec (findClass_of_methodNamed hn) hkY h3
  have h : At U g.method c below := by rw [hg]; exact X.here
  have hlocals9 : W9 + (maxL + 11) + (headSpec ws rm).room.locals ≤ R.locals := hlocals
  have happ : (headSpec ws rm).appliesLoose y e.platform (U.calling g mk a) = true :=
    Spec.appliesLoose_calling (g := g) h hdg hn hkY hinitY
      (X.room_calling (g := g) (R' := (headSpec ws rm).room) hsize hmY hcY hframes (by rw [hlY]; omega) h4 h5) h1
  obtain ⟨mid, hmid⟩ := h.above
  have hfr : (U.setTop g).frames = (.java g :: mid) ++ below := by rw [State.frames_setTop' g h.top, hmid]; rfl
  obtain ⟨o, s₂, hsteps, -, hend, hq⟩ := Steps.callFree hM p X.admits X.cas X.clock (acts := []) hfr happ hPc trivial
  have hq' : vx_Q Qc XC mc ms free a (U.calling g mk a) o s₂ := hq
  rw [State.frames_setTop' g h.top] at hend
  obtain ⟨g₀, hg0⟩ := Option.isSome_iff_exists.mp h.top
  obtain ⟨r, hr⟩ := State.topJava?_eq_some.mp hg0
  have hr' : (({ U with heap := s₂.heap, slotsUsed := s₂.slotsUsed } : State).setVm s₂.vm).frames = .java g₀ :: r := hr
  rcases hq' with ⟨hqc, L, hfe, hL⟩ | ⟨q, rfl, E, ce, L, hx, hce, hcv, hcl, hW₂, hsm, hL⟩
  · obtain ⟨⟨v, rfl⟩, hW₂, e2, q2, q3, q4, q5, q6⟩ := id hfe
    have e3 : s₂ = ({ (U.calling g mk a).setFrames s₂.frames with heap := s₂.heap, slotsUsed := s₂.slotsUsed } : State).setVm s₂.vm := by
      have : s₂ = ({ s₂ with vm := (U.calling g mk a).vm } : State).setVm s₂.vm := rfl
      rw [e2] at this
      exact this
    obtain ⟨c₂, i₂, len₂, hc₂, hd₂, hf₂⟩ := hend
    have hW' : U.WarmedH s₂.vm := hW₂
    have hcc : c₂ = c := by
      have h1 : s₂.code? g.method = U.code? g.method := by
        rw [State.code?_eq, State.code?_eq, hW'.alike.method?]
      exact Option.some.inj (hc₂.symm.trans (h1.trans h.code))
    subst hcc
    have hlen : len₂ = len := by rw [hdg] at hd₂; cases hd₂; rfl
    subst hlen
    have hs₂ : s₂ = (({ U with heap := s₂.heap, slotsUsed := s₂.slotsUsed } : State).setVm s₂.vm).setTop { g with pc := g.pc + len₂, stack := v.toList ++ g.stack } := by
      refine e3.trans ?_
      rw [hf₂, State.calling_eq h.top, State.setFrames_setFrames, State.setTop_of_frames _ hr', hr]
      rfl
    have hsame : U.sameButNew ({ U with heap := s₂.heap, slotsUsed := s₂.slotsUsed } : State) L mc ms := by
      refine ⟨?_, q2, q3, q4, q5, q6⟩
      obtain ⟨t, ht, -⟩ := State.frames_cons hr
      show ({ U with heap := s₂.heap, slotsUsed := s₂.slotsUsed } : State) = { U.setFrames U.frames with heap := s₂.heap, slotsUsed := s₂.slotsUsed }
      rw [State.setFrames_self ht]
    subst hg
    refine Or.inl ⟨v, ⟨(({ U with heap := s₂.heap, slotsUsed := s₂.slotsUsed } : State).setVm s₂.vm), Ls ++ L, c0 + mc, s0 + ms⟩,
      ⟨X.admits, X.cas, X.clock, X.frames, X.room, X.hears, X.method, X.code, (X.here.setHeapUsed s₂.heap s₂.slotsUsed).setVm hW'.alike, X.tail, State.WarmedH.trans X.warmed hW', X.limits, X.bytes, X.same.trans (hsame.setVm s.vm)⟩,
      ⟨g, mk, s₂, L, rfl, rfl, hqc, rfl, hL, rfl, rfl⟩, ?_⟩
    show Steps p.tables e below _ ((({ U with heap := s₂.heap, slotsUsed := s₂.slotsUsed } : State).setVm s₂.vm).setTop { g with pc := g.pc + len₂, stack := v.toList ++ g.stack })
    rw [← hs₂]
    exact hsteps
  · obtain ⟨e2, q2, q3, q4, q5, q6⟩ := id hsm
    have e3 : s₂ = ({ (U.calling g mk a).setFrames s₂.frames with heap := s₂.heap, slotsUsed := s₂.slotsUsed } : State).setVm s₂.vm := by
      have : s₂ = ({ s₂ with vm := (U.calling g mk a).vm } : State).setVm s₂.vm := rfl
      rw [e2] at this
      exact this
    have hf₂ : s₂.frames = .throwing q :: .java g :: U.frames.tail := hend
    have hW' : U.WarmedH s₂.vm := hW₂
    have hs₂ : s₂ = ((({ U with heap := s₂.heap, slotsUsed := s₂.slotsUsed } : State).setVm s₂.vm).setTop g).pushFrame (.throwing q) := by
      refine e3.trans ?_
      rw [hf₂, State.calling_eq h.top, State.setFrames_setFrames, State.pushFrame, State.frames_setTop _ hr', State.setTop_of_frames _ hr', State.setFrames_setFrames, hr]
      rfl
    have hsame : U.sameButNew ({ U with heap := s₂.heap, slotsUsed := s₂.slotsUsed } : State) L mc ms := by
      refine ⟨?_, q2, q3, q4, q5, q6⟩
      obtain ⟨t, ht, -⟩ := State.frames_cons hr
      show ({ U with heap := s₂.heap, slotsUsed := s₂.slotsUsed } : State) = { U.setFrames U.frames with heap := s₂.heap, slotsUsed := s₂.slotsUsed }
      rw [State.setFrames_self ht]
    subst hg
    refine Or.inr ⟨q, ⟨(({ U with heap := s₂.heap, slotsUsed := s₂.slotsUsed } : State).setVm s₂.vm), Ls ++ L, c0 + mc, s0 + ms⟩,
      ⟨X.admits, X.cas, X.clock, X.frames, X.room, X.hears, X.method, X.code, (X.here.setHeapUsed s₂.heap s₂.slotsUsed).setVm hW'.alike, X.tail, State.WarmedH.trans X.warmed hW', X.limits, X.bytes, X.same.trans (hsame.setVm s.vm)⟩,
      ⟨g, mk, s₂, L, E, ce, rfl, rfl, hx, hce, hcv, hcl, rfl, hL, rfl, rfl⟩, ?_⟩
    show Steps p.tables e below _ (((({ U with heap := s₂.heap, slotsUsed := s₂.slotsUsed } : State).setVm s₂.vm).setTop g).pushFrame (.throwing q))
    rw [← hs₂]
    exact hsteps
end
variable {p : Program} {l : Launch} {e : Env} {R : Room} {s : State} {m : MethodId} {args : Array Value} {below : List Frame} {meth : Method} {c : Code} {T : State} {H : Heap} {locs : List Loc} {cells slots : Nat}
theorem vx_callVX (X : Stand p l e R s m args below meth c T locs cells slots) (hexec : p.tables.exec = Jvm.exec) {own C : String} {index : Nat} {y : MethodName} {bytes : ByteArray} {maxL : Nat} {ret : Option FieldType} {hh : List (Nat × Nat × Nat × Nat)}
    (hown : s.vm.findClass own = some m.cls) (hlink : (Cond.methodLink own index y).before args s = true) (hinst : (Cond.instanceMethod y).before args s = true) (hsel : (Cond.selects C y y).before args s = true)
    (hcode : (Cond.codeWith y bytes maxL ret hh).before args s = true) (hy : y.cls ≠ "java/lang/invoke/MethodHandle" ∧ y.cls ≠ "java/lang/invoke/VarHandle")
    {W9 : Nat} {Pre : Pt → Array Value → Prop} {Post : Pt → Array Value → Option Value → Pt → Prop} {PostX : Pt → Array Value → Addr → Pt → Prop} (hK : vx_Back l R p e below s args y 3 W9 Pre Post PostX)
    {b : Addr} {cellB : Cell} (hcell : T.heap[b]? = some cellB) (hobj : cellB.vm.isStatics = false) (hcls : s.vm.findClass C = some cellB.cls)
    {g : JFrame} (hg : g.method = m) (hsize : g.locals.size = c.maxLocals) {argsL rest : List Value} (hlen : ∀ sig, parseMethodDescriptor y.desc = some sig → argsL.length = sig.parameters.length)
    (hstack : g.stack = argsL.reverse ++ .ref b :: rest) (hW : 2 * g.monitorRoom + (rest.map fun v => v.category).sum ≤ W9) (hdg : decode c.code g.pc = .ok (.invokevirtual index, 3))
    (hpre : ∀ vm₁, s.WarmedH vm₁ → Pre ⟨T.setVm vm₁, locs, cells, slots⟩ (Value.ref b :: argsL).toArray) :
    (∃ (v : Option Value) (vm₁ : Vm) (B : Pt), s.WarmedH vm₁ ∧ Stand p l e R s m args below meth c B.U B.locs B.cells B.slots ∧ Post ⟨T.setVm vm₁, locs, cells, slots⟩ (Value.ref b :: argsL).toArray v B ∧
      ∀ target, Steps p.tables e below (B.U.setTop { g with pc := g.pc + 3, stack := v.toList ++ rest }) target → Steps p.tables e below (T.setTop g) target) ∨
    (∃ (q : Addr) (vm₁ : Vm) (B : Pt), s.WarmedH vm₁ ∧ Stand p l e R s m args below meth c B.U B.locs B.cells B.slots ∧ PostX ⟨T.setVm vm₁, locs, cells, slots⟩ (Value.ref b :: argsL).toArray q B ∧
      Steps p.tables e below (T.setTop g) ((B.U.setTop { g with stack := rest }).pushFrame (.throwing q))) := by
  obtain ⟨mk, methM, hnamed, hmethM, hstM, habM⟩ := Cond.instanceMethod_spec hinst
  obtain ⟨m8, methM', cM, hn8, hmethM', -, -, -, -, -, -, hsigM⟩ := Cond.codeWith_spec hcode
  cases Option.some.inj (hn8.symm.trans hnamed)
  cases hmethM.symm.trans hmethM'
  obtain ⟨c2, r2, m2, q1, q2, q3, q4, kP, hkP, hkPi⟩ := Cond.selects_spec hsel
  cases hcls.symm.trans q1
  cases (State.methodFound?_of_named hnamed hy).symm.trans q2
  cases hnamed.symm.trans q3
  have hselP : selectMethod e.platform s.vm cellB.cls mk = .method mk := by rw [Launch.admits_selectMethod X.admits]; exact q4
  obtain ⟨vm₁, X₁, hstep₁⟩ := X.invokevirtual hexec hown hlink hnamed hmethM hstM hkP hkPi hy (a := b) (cell := cellB) hcell
    (fun z h => by rw [h] at hobj; cases hobj) hselP hmethM habM hkP hkPi (g := g) hg (argsL := argsL) (rest := rest) (hlen _ hsigM) hstack hdg
  rcases hK m meth c ⟨T.setVm vm₁, locs, cells, slots⟩ { g with stack := rest } (.invokevirtual index) mk (Value.ref b :: argsL).toArray X₁ hg hsize hdg hW (X₁.named hnamed) (hpre vm₁ X₁.warmed) with ⟨v, B, X', hpost, hsteps⟩ | ⟨q, B, X', hpost, hsteps⟩
  · exact Or.inl ⟨v, vm₁, B, X₁.warmed, X', hpost, fun target h => hstep₁ _ fun acts => by rw [doInvoke_state]; exact hsteps.trans h⟩
  · exact Or.inr ⟨q, vm₁, B, X₁.warmed, X', hpost, hstep₁ _ fun acts => by rw [doInvoke_state]; exact hsteps⟩
theorem vx_callSX (X : Stand p l e R s m args below meth c T locs cells slots) (hexec : p.tables.exec = Jvm.exec) {own : String} {index : Nat} {y : MethodName} {bytes : ByteArray} {maxL : Nat} {ret : Option FieldType} {hh : List (Nat × Nat × Nat × Nat)}
    (hown : s.vm.findClass own = some m.cls) (hlink : (Cond.methodLink own index y).before args s = true) (hstat : (Cond.static y).before args s = true) (hinit : (Cond.initialized y.cls).before args s = true)
    (hcode : (Cond.codeWith y bytes maxL ret hh).before args s = true) (hy : y.cls ≠ "java/lang/invoke/MethodHandle" ∧ y.cls ≠ "java/lang/invoke/VarHandle")
    {W9 : Nat} {Pre : Pt → Array Value → Prop} {Post : Pt → Array Value → Option Value → Pt → Prop} {PostX : Pt → Array Value → Addr → Pt → Prop} (hK : vx_Back l R p e below s args y 3 W9 Pre Post PostX)
    {g : JFrame} (hg : g.method = m) (hsize : g.locals.size = c.maxLocals) {argsL rest : List Value} (hlen : ∀ sig, parseMethodDescriptor y.desc = some sig → argsL.length = sig.parameters.length)
    (hstack : g.stack = argsL.reverse ++ rest) (hW : 2 * g.monitorRoom + (rest.map fun v => v.category).sum ≤ W9) (hdg : decode c.code g.pc = .ok (.invokestatic index, 3))
    (hpre : ∀ vm₁, s.WarmedH vm₁ → Pre ⟨T.setVm vm₁, locs, cells, slots⟩ argsL.toArray) :
    (∃ (v : Option Value) (vm₁ : Vm) (B : Pt), s.WarmedH vm₁ ∧ Stand p l e R s m args below meth c B.U B.locs B.cells B.slots ∧ Post ⟨T.setVm vm₁, locs, cells, slots⟩ argsL.toArray v B ∧
      ∀ target, Steps p.tables e below (B.U.setTop { g with pc := g.pc + 3, stack := v.toList ++ rest }) target → Steps p.tables e below (T.setTop g) target) ∨
    (∃ (q : Addr) (vm₁ : Vm) (B : Pt), s.WarmedH vm₁ ∧ Stand p l e R s m args below meth c B.U B.locs B.cells B.slots ∧ PostX ⟨T.setVm vm₁, locs, cells, slots⟩ argsL.toArray q B ∧
      Steps p.tables e below (T.setTop g) ((B.U.setTop { g with stack := rest }).pushFrame (.throwing q))) := by
  obtain ⟨mk, methM, cM, hnamed, hmethM, -, -, -, -, -, -, hsigM⟩ := Cond.codeWith_spec hcode
  have hstatic : methM.isStatic = true := Cond.static_spec hnamed hmethM hstat
  obtain ⟨kP, hkP, -⟩ := className_of_methodNamed hnamed
  have hinitP : kP.init = .initialized := Cond.initialized_spec (findClass_of_methodNamed hnamed) hkP hinit
  obtain ⟨vm₁, X₁, hstep₁⟩ := X.invokestatic hexec hown hlink hnamed hmethM hstatic hkP hinitP hy (g := g) hg (argsL := argsL) (rest := rest) (hlen _ hsigM) hstack hdg
  rcases hK m meth c ⟨T.setVm vm₁, locs, cells, slots⟩ { g with stack := rest } (.invokestatic index) mk argsL.toArray X₁ hg hsize hdg hW (X₁.named hnamed) (hpre vm₁ X₁.warmed) with ⟨v, B, X', hpost, hsteps⟩ | ⟨q, B, X', hpost, hsteps⟩
  · exact Or.inl ⟨v, vm₁, B, X₁.warmed, X', hpost, fun target h => hstep₁ _ fun acts => by rw [doInvoke_state]; exact hsteps.trans h⟩
  · exact Or.inr ⟨q, vm₁, B, X₁.warmed, X', hpost, hstep₁ _ fun acts => by rw [doInvoke_state]; exact hsteps⟩
theorem vx_callVW (X : Stand p l e R s m args below meth c T locs cells slots) (hexec : p.tables.exec = Jvm.exec) {own C : String} {index : Nat} {y : MethodName} {bytes : ByteArray} {maxL : Nat} {ret : Option FieldType} {hh : List (Nat × Nat × Nat × Nat)}
    (hown : s.vm.findClass own = some m.cls) (hlink : (Cond.methodLink own index y).before args s = true) (hinst : (Cond.instanceMethod y).before args s = true) (hsel : (Cond.selects C y y).before args s = true)
    (hcode : (Cond.codeWith y bytes maxL ret hh).before args s = true) (hy : y.cls ≠ "java/lang/invoke/MethodHandle" ∧ y.cls ≠ "java/lang/invoke/VarHandle")
    {W9 : Nat} {Pre : Pt → Array Value → Prop} {Post : Pt → Array Value → Option Value → Pt → Prop} (hK : Back l R p e below s args y 3 W9 Pre Post)
    {b : Addr} {cellB : Cell} (hcell : T.heap[b]? = some cellB) (hobj : cellB.vm.isStatics = false) (hcls : s.vm.findClass C = some cellB.cls)
    {g : JFrame} (hg : g.method = m) (hsize : g.locals.size = c.maxLocals) {argsL rest : List Value} (hlen : ∀ sig, parseMethodDescriptor y.desc = some sig → argsL.length = sig.parameters.length)
    (hstack : g.stack = argsL.reverse ++ .ref b :: rest) (hW : 2 * g.monitorRoom + (rest.map fun v => v.category).sum ≤ W9) (hdg : decode c.code g.pc = .ok (.invokevirtual index, 3))
    (hpre : ∀ vm₁, s.WarmedH vm₁ → Pre ⟨T.setVm vm₁, locs, cells, slots⟩ (Value.ref b :: argsL).toArray) :
    ∃ (v : Option Value) (vm₁ : Vm) (B : Pt), s.WarmedH vm₁ ∧ Stand p l e R s m args below meth c B.U B.locs B.cells B.slots ∧ Post ⟨T.setVm vm₁, locs, cells, slots⟩ (Value.ref b :: argsL).toArray v B ∧
      ∀ target, Steps p.tables e below (B.U.setTop { g with pc := g.pc + 3, stack := v.toList ++ rest }) target → Steps p.tables e below (T.setTop g) target := by
  obtain ⟨mk, methM, hnamed, hmethM, hstM, habM⟩ := Cond.instanceMethod_spec hinst
  obtain ⟨m8, methM', cM, hn8, hmethM', -, -, -, -, -, -, hsigM⟩ := Cond.codeWith_spec hcode
  cases Option.some.inj (hn8.symm.trans hnamed)
  cases hmethM.symm.trans hmethM'
  obtain ⟨c2, r2, m2, q1, q2, q3, q4, kP, hkP, hkPi⟩ := Cond.selects_spec hsel
  cases hcls.symm.trans q1
  cases (State.methodFound?_of_named hnamed hy).symm.trans q2
  cases hnamed.symm.trans q3
  have hselP : selectMethod e.platform s.vm cellB.cls mk = .method mk := by rw [Launch.admits_selectMethod X.admits]; exact q4
  obtain ⟨vm₁, X₁, hstep₁⟩ := X.invokevirtual hexec hown hlink hnamed hmethM hstM hkP hkPi hy (a := b) (cell := cellB) hcell
    (fun z h => by rw [h] at hobj; cases hobj) hselP hmethM habM hkP hkPi (g := g) hg (argsL := argsL) (rest := rest) (hlen _ hsigM) hstack hdg
  obtain ⟨v, B, X', hpost, hsteps⟩ := hK m meth c ⟨T.setVm vm₁, locs, cells, slots⟩ { g with stack := rest } (.invokevirtual index) mk (Value.ref b :: argsL).toArray X₁ hg hsize hdg hW (X₁.named hnamed) (hpre vm₁ X₁.warmed)
  exact ⟨v, vm₁, B, X₁.warmed, X', hpost, fun target h => hstep₁ _ fun acts => by rw [doInvoke_state]; exact hsteps.trans h⟩
abbrev vx_CVW (R : Room) (s : State) (args : Array Value) (own C : String) (index : Nat) (y : MethodName) (bytes : ByteArray) (maxL : Nat) (ret : Option FieldType) (hh : List (Nat × Nat × Nat × Nat)) (ws : List Cond) (rm : Room) (mc ms n : Nat) : Prop :=
  (rm.cells = mc ∧ rm.slots = ms ∧ rm.frames + 1 ≤ R.frames ∧ 8 + (maxL + 11) + rm.locals ≤ R.locals ∧ (∀ w ∈ ws, ∀ (a' : Array Value) (U : State), s.WarmedH U.vm → w.before a' U = true) ∧ Cond.codeWith y bytes maxL ret hh ∈ ws) ∧
  (Cond.codeWith y bytes maxL ret hh).before args s = true ∧ (Cond.initialized y.cls).before args s = true ∧ (y.cls ≠ "java/lang/invoke/MethodHandle" ∧ y.cls ≠ "java/lang/invoke/VarHandle") ∧
  (∀ sig, parseMethodDescriptor y.desc = some sig → n = sig.parameters.length) ∧ (Cond.methodLink own index y).before args s = true ∧ (Cond.instanceMethod y).before args s = true ∧ (Cond.selects C y y).before args s = true
theorem vx_cwVW {own C : String} {index maxL mc ms : Nat} {y : MethodName} {bytes : ByteArray} {ret : Option FieldType} {hh : List (Nat × Nat × Nat × Nat)} {Ts ws ws' : List Cond} {rm : Room} (n : Nat) (ht : ∀ w ∈ Ts, w.before args s = true) (hT : GoodIn Ts (wsV own index C y ws)) (hw : ws = Cond.codeWith y bytes maxL ret hh :: ws') (hrc : rm.cells = mc) (hrs : rm.slots = ms)
    (hd : y.cls = C ∧ y.cls ≠ "java/lang/invoke/MethodHandle" ∧ y.cls ≠ "java/lang/invoke/VarHandle" ∧ (parseMethodDescriptor y.desc).map (fun d => d.parameters.length) = some n) (hR : rm.frames + 1 ≤ R.frames ∧ 8 + (maxL + 11) + rm.locals ≤ R.locals) :
    vx_CVW R s args own C index y bytes maxL ret hh ws rm mc ms n := by
  obtain ⟨hC, hd⟩ := hd
  subst hC
  have ok : ∀ w ∈ wsV own index y.cls y ws, w.before args s = true := fun w h => ht w (hT w h).1
  have hG : GoodIn Ts ws := fun w h => hT w (by unfold wsV; exact List.mem_append_right _ h)
  have hc : Cond.codeWith y bytes maxL ret hh ∈ ws := by rw [hw]; exact List.mem_cons_self
  refine ⟨⟨hrc, hrs, hR.1, hR.2, pay_in ht hG, hc⟩, ht _ (hG _ hc).1, ok _ (by simp [wsV]), ⟨hd.1, hd.2.1⟩, fun sig h => ?_, ok _ (by simp [wsV]), ok _ (by simp [wsV]), ok _ (by simp [wsV])⟩
  have h2 := hd.2.2
  rw [h] at h2
  exact (Option.some.inj h2).symm
theorem vx_runVW {y : MethodName} {bytes cc : ByteArray} {maxL nL mc ms n index : Nat} {ret : Option FieldType} {hh : List (Nat × Nat × Nat × Nat)} {ws : List Cond} {rm : Room} {Pc : Array Value → State → Prop} {Qc : Array Value → State → Outcome → State → Prop} {free : Addr → Prop} {Ts : List Cond} {own C : String} {b : Addr} {As rest : List Value} {g : JFrame}
    (S : CallFix p m c cc nL s args Ts own) (hM : Met l y ws rm Pc Qc mc ms free) (cw : vx_CVW R s args own C index y bytes maxL ret hh ws rm mc ms n) (hp : PreV s H C b Pc As)
    (hg : g.method = m) (hn : As.length = n) (hsize : g.locals.size = nL) (hstack : g.stack = As.reverse ++ .ref b :: rest) (hW : 2 * g.monitorRoom + (rest.map fun v => v.category).sum ≤ 8) (hdg : decode cc g.pc = .ok (.invokevirtual index, 3)) (hf : cells + mc ≤ R.cells ∧ slots + ms ≤ R.slots) :
    va_Run p l e R s m args below meth c H locs cells slots mc ms g rest (Qc (Value.ref b :: As).toArray) free := by
  obtain ⟨⟨hrc, hrs, hfr, hlo, hws, hcw⟩, hcode, hini, hy, hlen, hl, hin, hse⟩ := cw
  have hK : Back l R p e below s args y 3 8 (PreOf R mc ms Pc) (PostOf Qc mc ms free) := va_backW (hh := hh) (bytes := bytes) (maxL := maxL) (ret := ret) hM hp.1 hrc hrs hfr hlo hws hcw (fun a' U hW => word_at hW (Or.inl (by first | rfl | simp [Cond.onTables, Cond.keeps, Cond.steady])) hini)
  obtain ⟨hx, hb, hml, ho, -⟩ := S
  obtain ⟨-, ⟨cellB, hcB, hoB, hclB⟩, hPc⟩ := hp
  intro T hT X
  obtain ⟨v, vm₁, ⟨U', l2, c2, s2⟩, hW₁, X', ⟨g', mk, t, L, e1, e2, hq, h1, hL, h2, h3⟩, st⟩ := vx_callVW X hx (C := C) (hh := hh) (bytes := bytes) (maxL := maxL) (ret := ret) ho hl hin hse hcode hy hK (by rw [hT]; exact hcB) hoB hclB hg (hsize.trans hml.symm) (argsL := As) (rest := rest) (fun sig h => hn.trans (hlen sig h)) hstack hW (by rw [hb]; exact hdg)
    (fun vm₁ hW₁ => ⟨hf.1, hf.2, hPc (T.setVm vm₁) hT hW₁⟩)
  dsimp only [Pt.U, Pt.locs, Pt.cells, Pt.slots] at X' e1 e2 h1 h2 h3 st
  subst h1; subst h2; subst h3
  exact ⟨v, (T.setVm vm₁).calling g' mk (Value.ref b :: As).toArray, t, U', L, hT, X', hL, e1, e2, hq, st⟩
section
variable {y : MethodName} {bytes cc : ByteArray} {maxL nL mc ms n index : Nat} {ret : Option FieldType} {ws : List Cond} {rm : Room} {Pc : Array Value → State → Prop} {Qc : Array Value → State → Outcome → State → Prop} {XC : String → State → State → Prop} {free : Addr → Prop} {Ts : List Cond} {own C : String} {b : Addr} {As rest : List Value} {g : JFrame}
theorem vx_runVX {hh : List (Nat × Nat × Nat × Nat)} (S : CallFix p m c cc nL s args Ts own) (hM : vx_Met l y ws rm Pc Qc XC mc ms free) (cw : vx_CVW R s args own C index y bytes maxL ret hh ws rm mc ms n) (hp : PreV s H C b Pc As)
    (hg : g.method = m) (hn : As.length = n) (hsize : g.locals.size = nL) (hstack : g.stack = As.reverse ++ .ref b :: rest) (hW : 2 * g.monitorRoom + (rest.map fun v => v.category).sum ≤ 8) (hdg : decode cc g.pc = .ok (.invokevirtual index, 3)) (hf : cells + mc ≤ R.cells ∧ slots + ms ≤ R.slots) :
    vx_Run p l e R s m args below meth c H locs cells slots mc ms g rest (Qc (Value.ref b :: As).toArray) XC free := by
  obtain ⟨⟨hrc, hrs, hfr, hlo, hws, hcw⟩, hcode, hini, hy, hlen, hl, hin, hse⟩ := cw
  have hK : vx_Back l R p e below s args y 3 8 (PreOf R mc ms Pc) (PostOf Qc mc ms free) (vx_Post XC mc ms free) := vx_backW (hh := hh) (bytes := bytes) (maxL := maxL) (ret := ret) hM hp.1 hrc hrs hfr hlo hws hcw (fun a' U hW => word_at hW (Or.inl (by first | rfl | simp [Cond.onTables, Cond.keeps, Cond.steady])) hini)
  obtain ⟨hx, hb, hml, ho, -⟩ := S
  obtain ⟨-, ⟨cellB, hcB, hoB, hclB⟩, hPc⟩ := hp
  intro T hT X
  rcases vx_callVX X hx (C := C) (hh := hh) (bytes := bytes) (maxL := maxL) (ret := ret) ho hl hin hse hcode hy hK (by rw [hT]; exact hcB) hoB hclB hg (hsize.trans hml.symm) (argsL := As) (rest := rest) (fun sig h => hn.trans (hlen sig h)) hstack hW (by rw [hb]; exact hdg)
    (fun vm₁ hW₁ => ⟨hf.1, hf.2, hPc (T.setVm vm₁) hT hW₁⟩) with ⟨v, vm₁, ⟨U', l2, c2, s2⟩, hW₁, X', ⟨g', mk, t, L, e1, e2, hq, h1, hL, h2, h3⟩, st⟩ | ⟨q, vm₁, ⟨U', l2, c2, s2⟩, hW₁, X', ⟨g', mk, t, L, E, ce, e1, e2, hq, hce, hcv, hcl, h1, hL, h2, h3⟩, st⟩
  · dsimp only [Pt.U, Pt.locs, Pt.cells, Pt.slots] at X' e1 e2 h1 h2 h3 st
    subst h1; subst h2; subst h3
    exact Or.inl ⟨v, (T.setVm vm₁).calling g' mk (Value.ref b :: As).toArray, t, U', L, hT, X', hL, e1, e2, hq, st⟩
  · dsimp only [Pt.U, Pt.locs, Pt.cells, Pt.slots] at X' e1 e2 h1 h2 h3 st hcl
    subst h1; subst h2; subst h3
    exact Or.inr ⟨q, (T.setVm vm₁).calling g' mk (Value.ref b :: As).toArray, t, U', L, E, ce, hT, X', hL, e1, e2, hq, hce, hcv, vx_cls hW₁ hcl, st⟩
theorem vx_runSX {hh : List (Nat × Nat × Nat × Nat)} (S : CallFix p m c cc nL s args Ts own) (hM : vx_Met l y ws rm Pc Qc XC mc ms free) (cw : vx_CSW R s args own index y bytes maxL ret hh ws rm mc ms n) (hp : PreS s H Pc As)
    (hg : g.method = m) (hn : As.length = n) (hsize : g.locals.size = nL) (hstack : g.stack = As.reverse ++ rest) (hW : 2 * g.monitorRoom + (rest.map fun v => v.category).sum ≤ 8) (hdg : decode cc g.pc = .ok (.invokestatic index, 3)) (hf : cells + mc ≤ R.cells ∧ slots + ms ≤ R.slots) :
    vx_Run p l e R s m args below meth c H locs cells slots mc ms g rest (Qc As.toArray) XC free := by
  obtain ⟨⟨hrc, hrs, hfr, hlo, hws, hcw⟩, hcode, hini, hy, hlen, hl, hstt⟩ := cw
  have hK : vx_Back l R p e below s args y 3 8 (PreOf R mc ms Pc) (PostOf Qc mc ms free) (vx_Post XC mc ms free) := vx_backW (hh := hh) (bytes := bytes) (maxL := maxL) (ret := ret) hM hp.1 hrc hrs hfr hlo hws hcw (fun a' U hW => word_at hW (Or.inl (by first | rfl | simp [Cond.onTables, Cond.keeps, Cond.steady])) hini)
  obtain ⟨hx, hb, hml, ho, -⟩ := S
  intro T hT X
  rcases vx_callSX X hx (hh := hh) (bytes := bytes) (maxL := maxL) (ret := ret) ho hl hstt hini hcode hy hK hg (hsize.trans hml.symm) (argsL := As) (rest := rest) (fun sig h => hn.trans (hlen sig h)) hstack hW (by rw [hb]; exact hdg)
    (fun vm₁ hW₁ => ⟨hf.1, hf.2, hp.2 (T.setVm vm₁) hT hW₁⟩) with ⟨v, vm₁, ⟨U', l2, c2, s2⟩, hW₁, X', ⟨g', mk, t, L, e1, e2, hq, h1, hL, h2, h3⟩, st⟩ | ⟨q, vm₁, ⟨U', l2, c2, s2⟩, hW₁, X', ⟨g', mk, t, L, E, ce, e1, e2, hq, hce, hcv, hcl, h1, hL, h2, h3⟩, st⟩
  · dsimp only [Pt.U, Pt.locs, Pt.cells, Pt.slots] at X' e1 e2 h1 h2 h3 st
    subst h1; subst h2; subst h3
    exact Or.inl ⟨v, (T.setVm vm₁).calling g' mk As.toArray, t, U', L, hT, X', hL, e1, e2, hq, st⟩
  · dsimp only [Pt.U, Pt.locs, Pt.cells, Pt.slots] at X' e1 e2 h1 h2 h3 st hcl
    subst h1; subst h2; subst h3
    exact Or.inr ⟨q, (T.setVm vm₁).calling g' mk As.toArray, t, U', L, E, ce, hT, X', hL, e1, e2, hq, hce, hcv, vx_cls hW₁ hcl, st⟩
end
end VXH
theorem vx_ofWH {l : Launch} {y : MethodName} {ws ws' : List Cond} {rm : Room} {Pc : Array Value → State → Prop} {Qc : Array Value → State → Outcome → State → Prop} {XC : String → State → State → Prop} {mc ms : Nat} {free : Addr → Prop} {cc : ByteArray} {maxL : Nat} {ret : Option FieldType} {hh : List (Nat × Nat × Nat × Nat)}
    (hy : plainName y.cls = true) (hw : ws = Cond.codeWith y cc maxL ret hh :: ws')
    (body : ∀ p e s m args below meth c s₁, BodyLoose p l y (headSpec ws rm) cc maxL ret e s m args below meth c s₁ → c.maxLocals = maxL → Pc args s →
      W p l e (headSpec ws rm).room s m args below meth c s.heap [] 0 0 (vx_MQ below Qc XC args s mc ms free) (entryFrame m args maxL)) : vx_Met l y ws rm Pc Qc XC mc ms free := by
  refine MetFree.of_bodyS (code := cc) (maxLocals := maxL) (ret := ret) hy ?_ ?_
  · intro args s m h hn
    obtain ⟨m9, meth, c, hn9, h1, h2, h3, h4, -, h5, h6, -⟩ := Cond.codeWith_spec (atoms_spec (ws := ws) h _ (by rw [hw]; exact List.mem_cons_self))
    cases hn.symm.trans hn9
    exact ⟨meth, c, h1, h2, h3, h4, h5, h6⟩
  · intro p e s m args below meth c s₁ B hml hP _
    have hh0 : s₁.heap = s.heap := by rw [B.state]; rfl
    obtain ⟨t, a1, o, b1, b2, b3⟩ := body p e s m args below meth c s₁ B hml hP s₁ hh0 (Stand.of_body B)
    exact ⟨t, o, a1, b1, b2, b3⟩
/-! ===== END ===== -/
end
section
/-! ===== BEGIN printed: names, fields, word lists, decode rows ===== -/
def RX0 : String := "DesiredStateKeeper$Code"
def TX0 : u_T := fun k => match k with
  | _ => ("", "", "", false)
def tyX0 : Nat → FieldType := fun k => match k with
  | _ => .int
abbrev wsX00 : List Cond := u_ws RX0 TX0 0
theorem nmX0 : ∀ a, a < 0 → ∀ b, b < 0 → a ≠ b → (TX0 a).2.1 ≠ (TX0 b).2.1 := by decide +kernel
theorem tyX0_ok : ∀ k, k < 0 → parseFieldDescriptor (TX0 k).2.2.1 = some (tyX0 k) := by decide +kernel
abbrev cX0_versionIn : ByteArray := prog_2_method_2_code
def yX0_versionIn : MethodName := ⟨RX0, "versionIn", "(II)I"⟩
abbrev cX0_with : ByteArray := prog_2_method_3_code
def yX0_with : MethodName := ⟨RX0, "with", "(III)I"⟩
abbrev cX0_change : ByteArray := prog_2_method_4_code
def yX0_change : MethodName := ⟨RX0, "change", "(II)I"⟩
def RX1 : String := "DesiredStateKeeper$Command"
def TX1 : u_T := fun k => match k with
  | _ => ("", "", "", false)
def tyX1 : Nat → FieldType := fun k => match k with
  | _ => .int
abbrev wsX10 : List Cond := u_ws RX1 TX1 0
theorem nmX1 : ∀ a, a < 0 → ∀ b, b < 0 → a ≠ b → (TX1 a).2.1 ≠ (TX1 b).2.1 := by decide +kernel
theorem tyX1_ok : ∀ k, k < 0 → parseFieldDescriptor (TX1 k).2.2.1 = some (tyX1 k) := by decide +kernel
abbrev cX1_succeeds : ByteArray := prog_3_method_2_code
def yX1_succeeds : MethodName := ⟨RX1, "succeeds", "(LDesiredStateKeeper$State;I)Z"⟩
abbrev cX1_setVersion : ByteArray := prog_3_method_3_code
def yX1_setVersion : MethodName := ⟨RX1, "setVersion", "(LDesiredStateKeeper$Plan;[IIII)Z"⟩
abbrev cX1_addApproval : ByteArray := prog_3_method_4_code
def yX1_addApproval : MethodName := ⟨RX1, "addApproval", "(LDesiredStateKeeper$State;III)Z"⟩
abbrev cX1_giveFaults : ByteArray := prog_3_method_5_code
def yX1_giveFaults : MethodName := ⟨RX1, "giveFaults", "(LDesiredStateKeeper$State;II)Z"⟩
def RX2 : String := "DesiredStateKeeper$Memory"
def TX2 : u_T := fun k => match k with
  | 0 => ("DesiredStateKeeper$Memory", "states", "[LDesiredStateKeeper$State;", true)
  | 1 => ("DesiredStateKeeper$Memory", "newest", "I", false)
  | _ => ("DesiredStateKeeper$Memory", "count", "I", false)
def tyX2 : Nat → FieldType := fun k => match k with
  | 0 => .array (.object "DesiredStateKeeper$State")
  | 1 => .int
  | _ => .int
abbrev wsX20 : List Cond := u_ws RX2 TX2 3
theorem nmX2 : ∀ a, a < 3 → ∀ b, b < 3 → a ≠ b → (TX2 a).2.1 ≠ (TX2 b).2.1 := by decide +kernel
theorem tyX2_ok : ∀ k, k < 3 → parseFieldDescriptor (TX2 k).2.2.1 = some (tyX2 k) := by decide +kernel
abbrev cX2_init : ByteArray := prog_4_method_1_code
def yX2_init : MethodName := ⟨RX2, "<init>", "(LDesiredStateKeeper$Plan;)V"⟩
abbrev cX2_forget : ByteArray := prog_4_method_2_code
def yX2_forget : MethodName := ⟨RX2, "forget", "()V"⟩
abbrev cX2_remember : ByteArray := prog_4_method_3_code
def yX2_remember : MethodName := ⟨RX2, "remember", "(LDesiredStateKeeper$State;)V"⟩
abbrev cX2_takeBack : ByteArray := prog_4_method_4_code
def yX2_takeBack : MethodName := ⟨RX2, "takeBack", "(LDesiredStateKeeper$State;)V"⟩
def RX3 : String := "DesiredStateKeeper$Plan"
def TX3 : u_T := fun k => match k with
  | 0 => ("DesiredStateKeeper$Plan", "nodes", "I", false)
  | 1 => ("DesiredStateKeeper$Plan", "components", "I", false)
  | 2 => ("DesiredStateKeeper$Plan", "limit", "I", false)
  | 3 => ("DesiredStateKeeper$Plan", "length", "I", false)
  | 4 => ("DesiredStateKeeper$Plan", "rings", "[I", true)
  | _ => ("DesiredStateKeeper$Plan", "rules", "LDesiredStateKeeper$RuleBook;", true)
def tyX3 : Nat → FieldType := fun k => match k with
  | 0 => .int
  | 1 => .int
  | 2 => .int
  | 3 => .int
  | 4 => .array .int
  | _ => .object "DesiredStateKeeper$RuleBook"
abbrev wsX30 : List Cond := u_ws RX3 TX3 6
theorem nmX3 : ∀ a, a < 6 → ∀ b, b < 6 → a ≠ b → (TX3 a).2.1 ≠ (TX3 b).2.1 := by decide +kernel
theorem tyX3_ok : ∀ k, k < 6 → parseFieldDescriptor (TX3 k).2.2.1 = some (tyX3 k) := by decide +kernel
abbrev cX3_init : ByteArray := prog_5_method_1_code
def yX3_init : MethodName := ⟨RX3, "<init>", "()V"⟩
abbrev cX3_take : ByteArray := prog_5_method_2_code
def yX3_take : MethodName := ⟨RX3, "take", "(LDesiredStateKeeper$TextReader;)V"⟩
abbrev cX3_has : ByteArray := prog_5_method_3_code
def yX3_has : MethodName := ⟨RX3, "has", "(II)Z"⟩
def RX4 : String := "DesiredStateKeeper$RuleBook"
def TX4 : u_T := fun k => match k with
  | 0 => ("DesiredStateKeeper$RuleBook", "parts", "[I", true)
  | 1 => ("DesiredStateKeeper$RuleBook", "brokenBy", "[I", true)
  | 2 => ("DesiredStateKeeper$RuleBook", "codes", "I", false)
  | _ => ("DesiredStateKeeper$RuleBook", "count", "I", false)
def tyX4 : Nat → FieldType := fun k => match k with
  | 0 => .array .int
  | 1 => .array .int
  | 2 => .int
  | _ => .int
abbrev wsX40 : List Cond := u_ws RX4 TX4 4
theorem nmX4 : ∀ a, a < 4 → ∀ b, b < 4 → a ≠ b → (TX4 a).2.1 ≠ (TX4 b).2.1 := by decide +kernel
theorem tyX4_ok : ∀ k, k < 4 → parseFieldDescriptor (TX4 k).2.2.1 = some (tyX4 k) := by decide +kernel
abbrev cX4_init : ByteArray := prog_6_method_1_code
def yX4_init : MethodName := ⟨RX4, "<init>", "()V"⟩
abbrev cX4_clear : ByteArray := prog_6_method_2_code
def yX4_clear : MethodName := ⟨RX4, "clear", "(I)V"⟩
abbrev cX4_add : ByteArray := prog_6_method_3_code
def yX4_add : MethodName := ⟨RX4, "add", "([II)V"⟩
abbrev cX4_part : ByteArray := prog_6_method_4_code
def yX4_part : MethodName := ⟨RX4, "part", "(II)I"⟩
abbrev cX4_isBroken : ByteArray := prog_6_method_5_code
def yX4_isBroken : MethodName := ⟨RX4, "isBroken", "(II)Z"⟩
abbrev cX4_brokenOn : ByteArray := prog_6_method_6_code
def yX4_brokenOn : MethodName := ⟨RX4, "brokenOn", "(I)I"⟩
abbrev cX4_newlyBroken : ByteArray := prog_6_method_7_code
def yX4_newlyBroken : MethodName := ⟨RX4, "newlyBroken", "(II)I"⟩
abbrev cX4_leastWithNeeds : ByteArray := prog_6_method_8_code
def yX4_leastWithNeeds : MethodName := ⟨RX4, "leastWithNeeds", "(I)I"⟩
abbrev cX4_raisedByNeeds : ByteArray := prog_6_method_9_code
def yX4_raisedByNeeds : MethodName := ⟨RX4, "raisedByNeeds", "(I)I"⟩
abbrev cX4_allow : ByteArray := prog_6_method_10_code
def yX4_allow : MethodName := ⟨RX4, "allow", "(II)Z"⟩
def RX5 : String := "DesiredStateKeeper$State"
def TX5 : u_T := fun k => match k with
  | 0 => ("DesiredStateKeeper$State", "plan", "LDesiredStateKeeper$Plan;", true)
  | 1 => ("DesiredStateKeeper$State", "present", "[I", true)
  | 2 => ("DesiredStateKeeper$State", "wished", "[I", true)
  | 3 => ("DesiredStateKeeper$State", "faults", "[I", true)
  | 4 => ("DesiredStateKeeper$State", "strikes", "[I", true)
  | 5 => ("DesiredStateKeeper$State", "quarantineEnds", "[I", true)
  | 6 => ("DesiredStateKeeper$State", "quorums", "[I", true)
  | 7 => ("DesiredStateKeeper$State", "approvers", "[I", true)
  | 8 => ("DesiredStateKeeper$State", "time", "I", false)
  | _ => ("DesiredStateKeeper$State", "changes", "I", false)
def tyX5 : Nat → FieldType := fun k => match k with
  | 0 => .object "DesiredStateKeeper$Plan"
  | 1 => .array .int
  | 2 => .array .int
  | 3 => .array .int
  | 4 => .array .int
  | 5 => .array .int
  | 6 => .array .int
  | 7 => .array .int
  | 8 => .int
  | _ => .int
abbrev wsX50 : List Cond := u_ws RX5 TX5 10
theorem nmX5 : ∀ a, a < 10 → ∀ b, b < 10 → a ≠ b → (TX5 a).2.1 ≠ (TX5 b).2.1 := by decide +kernel
theorem tyX5_ok : ∀ k, k < 10 → parseFieldDescriptor (TX5 k).2.2.1 = some (tyX5 k) := by decide +kernel
abbrev cX5_init : ByteArray := prog_7_method_1_code
def yX5_init : MethodName := ⟨RX5, "<init>", "(LDesiredStateKeeper$Plan;)V"⟩
abbrev cX5_copy : ByteArray := prog_7_method_2_code
def yX5_copy : MethodName := ⟨RX5, "copy", "(LDesiredStateKeeper$State;)V"⟩
abbrev cX5_take : ByteArray := prog_7_method_3_code
def yX5_take : MethodName := ⟨RX5, "take", "(LDesiredStateKeeper$TextReader;)V"⟩
abbrev cX5_isQuarantined : ByteArray := prog_7_method_4_code
def yX5_isQuarantined : MethodName := ⟨RX5, "isQuarantined", "(I)Z"⟩
abbrev cX5_isDrifted : ByteArray := prog_7_method_5_code
def yX5_isDrifted : MethodName := ⟨RX5, "isDrifted", "(II)Z"⟩
abbrev cX5_driftedOn : ByteArray := prog_7_method_6_code
def yX5_driftedOn : MethodName := ⟨RX5, "driftedOn", "(I)I"⟩
abbrev cX5_driftedNodes : ByteArray := prog_7_method_7_code
def yX5_driftedNodes : MethodName := ⟨RX5, "driftedNodes", "()I"⟩
abbrev cX5_calmNodes : ByteArray := prog_7_method_8_code
def yX5_calmNodes : MethodName := ⟨RX5, "calmNodes", "()I"⟩
abbrev cX5_digestOf : ByteArray := prog_7_method_9_code
def yX5_digestOf : MethodName := ⟨RX5, "digestOf", "(I)I"⟩
abbrev cX5_numberOf : ByteArray := prog_7_method_10_code
def yX5_numberOf : MethodName := ⟨RX5, "numberOf", "(II)I"⟩
abbrev cX5_stateOf : ByteArray := prog_7_method_11_code
def yX5_stateOf : MethodName := ⟨RX5, "stateOf", "(II)I"⟩
abbrev cX5_missingTo : ByteArray := prog_7_method_12_code
def yX5_missingTo : MethodName := ⟨RX5, "missingTo", "(II)I"⟩
abbrev cX5_isDriftedBelow : ByteArray := prog_7_method_13_code
def yX5_isDriftedBelow : MethodName := ⟨RX5, "isDriftedBelow", "(II)Z"⟩
abbrev cX5_brokenByWish : ByteArray := prog_7_method_14_code
def yX5_brokenByWish : MethodName := ⟨RX5, "brokenByWish", "(II)I"⟩
abbrev cX5_readyOn : ByteArray := prog_7_method_15_code
def yX5_readyOn : MethodName := ⟨RX5, "readyOn", "(I)I"⟩
abbrev cX5_passTicks : ByteArray := prog_7_method_16_code
def yX5_passTicks : MethodName := ⟨RX5, "passTicks", "(I)V"⟩
abbrev cX5_attempt : ByteArray := prog_7_method_17_code
def yX5_attempt : MethodName := ⟨RX5, "attempt", "(II)V"⟩
abbrev cX5_pairsHeldUpBy : ByteArray := prog_7_method_18_code
def yX5_pairsHeldUpBy : MethodName := ⟨RX5, "pairsHeldUpBy", "(I)I"⟩
abbrev cX5_missingApprovals : ByteArray := prog_7_method_19_code
def yX5_missingApprovals : MethodName := ⟨RX5, "missingApprovals", "(I)I"⟩
abbrev cX5_isAwaited : ByteArray := prog_7_method_20_code
def yX5_isAwaited : MethodName := ⟨RX5, "isAwaited", "(II)Z"⟩
abbrev cX5_changesTo : ByteArray := prog_7_method_21_code
def yX5_changesTo : MethodName := ⟨RX5, "changesTo", "(II)I"⟩
abbrev cX5_rankOf : ByteArray := prog_7_method_22_code
def yX5_rankOf : MethodName := ⟨RX5, "rankOf", "(I)I"⟩
abbrev cX5_isFarther : ByteArray := prog_7_method_23_code
def yX5_isFarther : MethodName := ⟨RX5, "isFarther", "(II)Z"⟩
abbrev cX5_disturb : ByteArray := prog_7_method_24_code
def yX5_disturb : MethodName := ⟨RX5, "disturb", "(I)V"⟩
def RX6 : String := "DesiredStateKeeper$TextReader"
def TX6 : u_T := fun k => match k with
  | 0 => ("DesiredStateKeeper$TextReader", "nodes", "I", false)
  | 1 => ("DesiredStateKeeper$TextReader", "components", "I", false)
  | 2 => ("DesiredStateKeeper$TextReader", "limit", "I", false)
  | 3 => ("DesiredStateKeeper$TextReader", "length", "I", false)
  | 4 => ("DesiredStateKeeper$TextReader", "ruleCount", "I", false)
  | 5 => ("DesiredStateKeeper$TextReader", "rings", "[I", true)
  | 6 => ("DesiredStateKeeper$TextReader", "quorums", "[I", true)
  | 7 => ("DesiredStateKeeper$TextReader", "rules", "[I", true)
  | 8 => ("DesiredStateKeeper$TextReader", "present", "[I", true)
  | 9 => ("DesiredStateKeeper$TextReader", "wished", "[I", true)
  | 10 => ("DesiredStateKeeper$TextReader", "text", "[C", true)
  | 11 => ("DesiredStateKeeper$TextReader", "end", "I", false)
  | 12 => ("DesiredStateKeeper$TextReader", "position", "I", false)
  | _ => ("DesiredStateKeeper$TextReader", "failed", "Z", false)
def tyX6 : Nat → FieldType := fun k => match k with
  | 0 => .int
  | 1 => .int
  | 2 => .int
  | 3 => .int
  | 4 => .int
  | 5 => .array .int
  | 6 => .array .int
  | 7 => .array .int
  | 8 => .array .int
  | 9 => .array .int
  | 10 => .array .char
  | 11 => .int
  | 12 => .int
  | _ => .boolean
abbrev wsX60 : List Cond := u_ws RX6 TX6 14
theorem nmX6 : ∀ a, a < 14 → ∀ b, b < 14 → a ≠ b → (TX6 a).2.1 ≠ (TX6 b).2.1 := by decide +kernel
theorem tyX6_ok : ∀ k, k < 14 → parseFieldDescriptor (TX6 k).2.2.1 = some (tyX6 k) := by decide +kernel
abbrev cX6_init : ByteArray := prog_8_method_1_code
def yX6_init : MethodName := ⟨RX6, "<init>", "([C)V"⟩
abbrev cX6_read : ByteArray := prog_8_method_2_code
def yX6_read : MethodName := ⟨RX6, "read", "(I)I"⟩
abbrev cX6_readHead : ByteArray := prog_8_method_3_code
def yX6_readHead : MethodName := ⟨RX6, "readHead", "()V"⟩
abbrev cX6_readItems : ByteArray := prog_8_method_4_code
def yX6_readItems : MethodName := ⟨RX6, "readItems", "()V"⟩
abbrev cX6_readItem : ByteArray := prog_8_method_5_code
def yX6_readItem : MethodName := ⟨RX6, "readItem", "(C)V"⟩
abbrev cX6_readRule : ByteArray := prog_8_method_6_code
def yX6_readRule : MethodName := ⟨RX6, "readRule", "(I)V"⟩
abbrev cX6_readVersion : ByteArray := prog_8_method_7_code
def yX6_readVersion : MethodName := ⟨RX6, "readVersion", "([I)V"⟩
abbrev cX6_readLetter : ByteArray := prog_8_method_8_code
def yX6_readLetter : MethodName := ⟨RX6, "readLetter", "(C)V"⟩
abbrev cX6_readDigit : ByteArray := prog_8_method_9_code
def yX6_readDigit : MethodName := ⟨RX6, "readDigit", "(II)I"⟩
abbrev cX6_readDigitBut : ByteArray := prog_8_method_10_code
def yX6_readDigitBut : MethodName := ⟨RX6, "readDigitBut", "(II)I"⟩
def RX7 : String := "DesiredStateKeeper$Ways"
def TX7 : u_T := fun k => match k with
  | 0 => ("DesiredStateKeeper$Ways", "plan", "LDesiredStateKeeper$Plan;", true)
  | 1 => ("DesiredStateKeeper$Ways", "distances", "[I", true)
  | 2 => ("DesiredStateKeeper$Ways", "queue", "[I", true)
  | 3 => ("DesiredStateKeeper$Ways", "goal", "I", false)
  | 4 => ("DesiredStateKeeper$Ways", "head", "I", false)
  | _ => ("DesiredStateKeeper$Ways", "tail", "I", false)
def tyX7 : Nat → FieldType := fun k => match k with
  | 0 => .object "DesiredStateKeeper$Plan"
  | 1 => .array .int
  | 2 => .array .int
  | 3 => .int
  | 4 => .int
  | _ => .int
abbrev wsX70 : List Cond := u_ws RX7 TX7 6
theorem nmX7 : ∀ a, a < 6 → ∀ b, b < 6 → a ≠ b → (TX7 a).2.1 ≠ (TX7 b).2.1 := by decide +kernel
theorem tyX7_ok : ∀ k, k < 6 → parseFieldDescriptor (TX7 k).2.2.1 = some (tyX7 k) := by decide +kernel
abbrev cX7_init : ByteArray := prog_9_method_1_code
def yX7_init : MethodName := ⟨RX7, "<init>", "(LDesiredStateKeeper$Plan;)V"⟩
abbrev cX7_forget : ByteArray := prog_9_method_2_code
def yX7_forget : MethodName := ⟨RX7, "forget", "()V"⟩
abbrev cX7_distance : ByteArray := prog_9_method_3_code
def yX7_distance : MethodName := ⟨RX7, "distance", "(II)I"⟩
abbrev cX7_aimAt : ByteArray := prog_9_method_4_code
def yX7_aimAt : MethodName := ⟨RX7, "aimAt", "(I)V"⟩
abbrev cX7_distanceOf : ByteArray := prog_9_method_5_code
def yX7_distanceOf : MethodName := ⟨RX7, "distanceOf", "(I)I"⟩
abbrev cX7_enqueue : ByteArray := prog_9_method_6_code
def yX7_enqueue : MethodName := ⟨RX7, "enqueue", "(II)V"⟩
abbrev cX7_reachFrom : ByteArray := prog_9_method_7_code
def yX7_reachFrom : MethodName := ⟨RX7, "reachFrom", "(I)V"⟩
abbrev cX7_changeOfBest : ByteArray := prog_9_method_8_code
def yX7_changeOfBest : MethodName := ⟨RX7, "changeOfBest", "(III)I"⟩
abbrev cX7_afterChange : ByteArray := prog_9_method_9_code
def yX7_afterChange : MethodName := ⟨RX7, "afterChange", "(II)I"⟩
abbrev cX7_bestChange : ByteArray := prog_9_method_10_code
def yX7_bestChange : MethodName := ⟨RX7, "bestChange", "(I)I"⟩
def RX8 : String := "DesiredStateKeeper"
def TX8 : u_T := fun k => match k with
  | 0 => ("DesiredStateKeeper", "text", "[C", true)
  | 1 => ("DesiredStateKeeper", "textLength", "I", false)
  | 2 => ("DesiredStateKeeper", "reader", "LDesiredStateKeeper$TextReader;", true)
  | 3 => ("DesiredStateKeeper", "plan", "LDesiredStateKeeper$Plan;", true)
  | 4 => ("DesiredStateKeeper", "ways", "LDesiredStateKeeper$Ways;", true)
  | 5 => ("DesiredStateKeeper", "current", "LDesiredStateKeeper$State;", true)
  | 6 => ("DesiredStateKeeper", "trial", "LDesiredStateKeeper$State;", true)
  | 7 => ("DesiredStateKeeper", "memory", "LDesiredStateKeeper$Memory;", true)
  | 8 => ("DesiredStateKeeper", "slots", "[LDesiredStateKeeper$State;", true)
  | _ => ("DesiredStateKeeper", "slotFilled", "[Z", true)
def tyX8 : Nat → FieldType := fun k => match k with
  | 0 => .array .char
  | 1 => .int
  | 2 => .object "DesiredStateKeeper$TextReader"
  | 3 => .object "DesiredStateKeeper$Plan"
  | 4 => .object "DesiredStateKeeper$Ways"
  | 5 => .object "DesiredStateKeeper$State"
  | 6 => .object "DesiredStateKeeper$State"
  | 7 => .object "DesiredStateKeeper$Memory"
  | 8 => .array (.object "DesiredStateKeeper$State")
  | _ => .array .boolean
abbrev wsX80 : List Cond := u_ws RX8 TX8 10
theorem nmX8 : ∀ a, a < 10 → ∀ b, b < 10 → a ≠ b → (TX8 a).2.1 ≠ (TX8 b).2.1 := by decide +kernel
theorem tyX8_ok : ∀ k, k < 10 → parseFieldDescriptor (TX8 k).2.2.1 = some (tyX8 k) := by decide +kernel
abbrev cX8_init : ByteArray := prog_1_method_1_code
def yX8_init : MethodName := ⟨RX8, "<init>", "()V"⟩
abbrev cX8_append : ByteArray := prog_1_method_2_code
def yX8_append : MethodName := ⟨RX8, "append", "(I)I"⟩
abbrev cX8_clearText : ByteArray := prog_1_method_3_code
def yX8_clearText : MethodName := ⟨RX8, "clearText", "()I"⟩
abbrev cX8_errorPosition : ByteArray := prog_1_method_4_code
def yX8_errorPosition : MethodName := ⟨RX8, "errorPosition", "()I"⟩
abbrev cX8_load : ByteArray := prog_1_method_5_code
def yX8_load : MethodName := ⟨RX8, "load", "()I"⟩
abbrev cX8_about : ByteArray := prog_1_method_6_code
def yX8_about : MethodName := ⟨RX8, "about", "(I)I"⟩
abbrev cX8_node : ByteArray := prog_1_method_7_code
def yX8_node : MethodName := ⟨RX8, "node", "(II)I"⟩
abbrev cX8_version : ByteArray := prog_1_method_8_code
def yX8_version : MethodName := ⟨RX8, "version", "(IIZ)I"⟩
abbrev cX8_rule : ByteArray := prog_1_method_9_code
def yX8_rule : MethodName := ⟨RX8, "rule", "(II)I"⟩
abbrev cX8_approvals : ByteArray := prog_1_method_10_code
def yX8_approvals : MethodName := ⟨RX8, "approvals", "(II)I"⟩
abbrev cX8_quorum : ByteArray := prog_1_method_11_code
def yX8_quorum : MethodName := ⟨RX8, "quorum", "(I)I"⟩
abbrev cX8_wish : ByteArray := prog_1_method_12_code
def yX8_wish : MethodName := ⟨RX8, "wish", "(III)I"⟩
abbrev cX8_wishRing : ByteArray := prog_1_method_13_code
def yX8_wishRing : MethodName := ⟨RX8, "wishRing", "(III)I"⟩
abbrev cX8_drift : ByteArray := prog_1_method_14_code
def yX8_drift : MethodName := ⟨RX8, "drift", "(III)I"⟩
abbrev cX8_approve : ByteArray := prog_1_method_15_code
def yX8_approve : MethodName := ⟨RX8, "approve", "(III)I"⟩
abbrev cX8_dismiss : ByteArray := prog_1_method_16_code
def yX8_dismiss : MethodName := ⟨RX8, "dismiss", "(I)I"⟩
abbrev cX8_setQuorum : ByteArray := prog_1_method_17_code
def yX8_setQuorum : MethodName := ⟨RX8, "setQuorum", "(II)I"⟩
abbrev cX8_setFaults : ByteArray := prog_1_method_18_code
def yX8_setFaults : MethodName := ⟨RX8, "setFaults", "(II)I"⟩
abbrev cX8_pardon : ByteArray := prog_1_method_19_code
def yX8_pardon : MethodName := ⟨RX8, "pardon", "(I)I"⟩
abbrev cX8_tick : ByteArray := prog_1_method_20_code
def yX8_tick : MethodName := ⟨RX8, "tick", "(I)I"⟩
abbrev cX8_undo : ByteArray := prog_1_method_21_code
def yX8_undo : MethodName := ⟨RX8, "undo", "()I"⟩
abbrev cX8_state : ByteArray := prog_1_method_22_code
def yX8_state : MethodName := ⟨RX8, "state", "(II)I"⟩
abbrev cX8_next : ByteArray := prog_1_method_23_code
def yX8_next : MethodName := ⟨RX8, "next", "(I)I"⟩
abbrev cX8_breaks : ByteArray := prog_1_method_24_code
def yX8_breaks : MethodName := ⟨RX8, "breaks", "(III)I"⟩
abbrev cX8_holdsUp : ByteArray := prog_1_method_25_code
def yX8_holdsUp : MethodName := ⟨RX8, "holdsUp", "(I)I"⟩
abbrev cX8_missing : ByteArray := prog_1_method_26_code
def yX8_missing : MethodName := ⟨RX8, "missing", "(I)I"⟩
abbrev cX8_ahead : ByteArray := prog_1_method_27_code
def yX8_ahead : MethodName := ⟨RX8, "ahead", "(III)I"⟩
abbrev cX8_calmAfter : ByteArray := prog_1_method_28_code
def yX8_calmAfter : MethodName := ⟨RX8, "calmAfter", "()I"⟩
abbrev cX8_fewest : ByteArray := prog_1_method_29_code
def yX8_fewest : MethodName := ⟨RX8, "fewest", "(I)I"⟩
abbrev cX8_step : ByteArray := prog_1_method_30_code
def yX8_step : MethodName := ⟨RX8, "step", "(II)I"⟩
abbrev cX8_needed : ByteArray := prog_1_method_31_code
def yX8_needed : MethodName := ⟨RX8, "needed", "(III)I"⟩
abbrev cX8_isPossible : ByteArray := prog_1_method_32_code
def yX8_isPossible : MethodName := ⟨RX8, "isPossible", "(II)Z"⟩
abbrev cX8_explains : ByteArray := prog_1_method_33_code
def yX8_explains : MethodName := ⟨RX8, "explains", "(II)I"⟩
abbrev cX8_ranked : ByteArray := prog_1_method_34_code
def yX8_ranked : MethodName := ⟨RX8, "ranked", "(I)I"⟩
abbrev cX8_runScript : ByteArray := prog_1_method_35_code
def yX8_runScript : MethodName := ⟨RX8, "runScript", "(IJ)I"⟩
abbrev cX8_simulate : ByteArray := prog_1_method_36_code
def yX8_simulate : MethodName := ⟨RX8, "simulate", "(JI)I"⟩
abbrev cX8_save : ByteArray := prog_1_method_37_code
def yX8_save : MethodName := ⟨RX8, "save", "(I)I"⟩
abbrev cX8_restore : ByteArray := prog_1_method_38_code
def yX8_restore : MethodName := ⟨RX8, "restore", "(I)I"⟩
abbrev cX8_requireNode : ByteArray := prog_1_method_39_code
def yX8_requireNode : MethodName := ⟨RX8, "requireNode", "(I)V"⟩
abbrev cX8_requireComponent : ByteArray := prog_1_method_40_code
def yX8_requireComponent : MethodName := ⟨RX8, "requireComponent", "(I)V"⟩
abbrev cX8_requireRule : ByteArray := prog_1_method_41_code
def yX8_requireRule : MethodName := ⟨RX8, "requireRule", "(I)V"⟩
abbrev cX8_requireApprover : ByteArray := prog_1_method_42_code
def yX8_requireApprover : MethodName := ⟨RX8, "requireApprover", "(I)V"⟩
abbrev cX8_requireSlot : ByteArray := prog_1_method_43_code
def yX8_requireSlot : MethodName := ⟨RX8, "requireSlot", "(I)V"⟩
abbrev cX8_requireRange : ByteArray := prog_1_method_44_code
def yX8_requireRange : MethodName := ⟨RX8, "requireRange", "(III)V"⟩
def RX9 : String := "DesiredStateKeeperModel"
def TX9 : u_T := fun k => match k with
  | 0 => ("DesiredStateKeeperModel", "refusal", "I", false)
  | 1 => ("DesiredStateKeeperModel", "script", "[I", true)
  | 2 => ("DesiredStateKeeperModel", "scriptSize", "I", false)
  | 3 => ("DesiredStateKeeperModel", "spot", "I", false)
  | 4 => ("DesiredStateKeeperModel", "nodes", "I", false)
  | 5 => ("DesiredStateKeeperModel", "parts", "I", false)
  | 6 => ("DesiredStateKeeperModel", "rules", "I", false)
  | 7 => ("DesiredStateKeeperModel", "limit", "I", false)
  | 8 => ("DesiredStateKeeperModel", "length", "I", false)
  | 9 => ("DesiredStateKeeperModel", "rings", "[I", true)
  | 10 => ("DesiredStateKeeperModel", "law", "[I", true)
  | 11 => ("DesiredStateKeeperModel", "readNodes", "I", false)
  | 12 => ("DesiredStateKeeperModel", "readParts", "I", false)
  | 13 => ("DesiredStateKeeperModel", "readRules", "I", false)
  | 14 => ("DesiredStateKeeperModel", "readLimit", "I", false)
  | 15 => ("DesiredStateKeeperModel", "readLength", "I", false)
  | 16 => ("DesiredStateKeeperModel", "readRings", "[I", true)
  | 17 => ("DesiredStateKeeperModel", "readLaw", "[I", true)
  | 18 => ("DesiredStateKeeperModel", "readRow", "[I", true)
  | 19 => ("DesiredStateKeeperModel", "now", "[I", true)
  | 20 => ("DesiredStateKeeperModel", "trial", "[I", true)
  | 21 => ("DesiredStateKeeperModel", "diary", "[I", true)
  | 22 => ("DesiredStateKeeperModel", "acts", "I", false)
  | 23 => ("DesiredStateKeeperModel", "kept", "[I", true)
  | 24 => ("DesiredStateKeeperModel", "isKept", "[Z", true)
  | 25 => ("DesiredStateKeeperModel", "bad", "[I", true)
  | 26 => ("DesiredStateKeeperModel", "far", "[I", true)
  | 27 => ("DesiredStateKeeperModel", "queue", "[I", true)
  | _ => ("DesiredStateKeeperModel", "needs", "[I", true)
def tyX9 : Nat → FieldType := fun k => match k with
  | 0 => .int
  | 1 => .array .int
  | 2 => .int
  | 3 => .int
  | 4 => .int
  | 5 => .int
  | 6 => .int
  | 7 => .int
  | 8 => .int
  | 9 => .array .int
  | 10 => .array .int
  | 11 => .int
  | 12 => .int
  | 13 => .int
  | 14 => .int
  | 15 => .int
  | 16 => .array .int
  | 17 => .array .int
  | 18 => .array .int
  | 19 => .array .int
  | 20 => .array .int
  | 21 => .array .int
  | 22 => .int
  | 23 => .array .int
  | 24 => .array .boolean
  | 25 => .array .int
  | 26 => .array .int
  | 27 => .array .int
  | _ => .array .int
abbrev wsX90 : List Cond := u_ws RX9 TX9 29
theorem nmX9 : ∀ a, a < 29 → ∀ b, b < 29 → a ≠ b → (TX9 a).2.1 ≠ (TX9 b).2.1 := by decide +kernel
theorem tyX9_ok : ∀ k, k < 29 → parseFieldDescriptor (TX9 k).2.2.1 = some (tyX9 k) := by decide +kernel
abbrev cX9_init : ByteArray := prog_11_method_1_code
def yX9_init : MethodName := ⟨RX9, "<init>", "()V"⟩
abbrev cX9_thrown : ByteArray := prog_11_method_2_code
def yX9_thrown : MethodName := ⟨RX9, "thrown", "()I"⟩
abbrev cX9_refused : ByteArray := prog_11_method_3_code
def yX9_refused : MethodName := ⟨RX9, "refused", "(I)Z"⟩
abbrev cX9_in : ByteArray := prog_11_method_4_code
def yX9_in : MethodName := ⟨RX9, "in", "(JJJ)Z"⟩
abbrev cX9_copy : ByteArray := prog_11_method_5_code
def yX9_copy : MethodName := ⟨RX9, "copy", "([II[III)V"⟩
abbrev cX9_note : ByteArray := prog_11_method_6_code
def yX9_note : MethodName := ⟨RX9, "note", "()V"⟩
abbrev cX9_change : ByteArray := prog_11_method_7_code
def yX9_change : MethodName := ⟨RX9, "change", "(II)I"⟩
abbrev cX9_at : ByteArray := prog_11_method_8_code
def yX9_at : MethodName := ⟨RX9, "at", "(I)I"⟩
abbrev cX9_partAt : ByteArray := prog_11_method_9_code
def yX9_partAt : MethodName := ⟨RX9, "partAt", "(I)I"⟩
abbrev cX9_isNode : ByteArray := prog_11_method_10_code
def yX9_isNode : MethodName := ⟨RX9, "isNode", "(I)Z"⟩
abbrev cX9_isPart : ByteArray := prog_11_method_11_code
def yX9_isPart : MethodName := ⟨RX9, "isPart", "(I)Z"⟩
abbrev cX9_isVersion : ByteArray := prog_11_method_12_code
def yX9_isVersion : MethodName := ⟨RX9, "isVersion", "(I)Z"⟩
abbrev cX9_append : ByteArray := prog_11_method_13_code
def yX9_append : MethodName := ⟨RX9, "append", "(I)I"⟩
abbrev cX9_clearText : ByteArray := prog_11_method_14_code
def yX9_clearText : MethodName := ⟨RX9, "clearText", "()I"⟩
abbrev cX9_passes : ByteArray := prog_11_method_15_code
def yX9_passes : MethodName := ⟨RX9, "passes", "(I)Z"⟩
abbrev cX9_digit : ByteArray := prog_11_method_16_code
def yX9_digit : MethodName := ⟨RX9, "digit", "(III)I"⟩
abbrev cX9_readHead : ByteArray := prog_11_method_17_code
def yX9_readHead : MethodName := ⟨RX9, "readHead", "()Z"⟩
abbrev cX9_readRule : ByteArray := prog_11_method_18_code
def yX9_readRule : MethodName := ⟨RX9, "readRule", "(I)Z"⟩
abbrev cX9_readVersion : ByteArray := prog_11_method_19_code
def yX9_readVersion : MethodName := ⟨RX9, "readVersion", "(I)Z"⟩
abbrev cX9_readItem : ByteArray := prog_11_method_20_code
def yX9_readItem : MethodName := ⟨RX9, "readItem", "()Z"⟩
abbrev cX9_readText : ByteArray := prog_11_method_21_code
def yX9_readText : MethodName := ⟨RX9, "readText", "()I"⟩
abbrev cX9_errorPosition : ByteArray := prog_11_method_22_code
def yX9_errorPosition : MethodName := ⟨RX9, "errorPosition", "()I"⟩
abbrev cX9_load : ByteArray := prog_11_method_23_code
def yX9_load : MethodName := ⟨RX9, "load", "()I"⟩
abbrev cX9_versionOf : ByteArray := prog_11_method_24_code
def yX9_versionOf : MethodName := ⟨RX9, "versionOf", "(II)I"⟩
abbrev cX9_with : ByteArray := prog_11_method_25_code
def yX9_with : MethodName := ⟨RX9, "with", "(III)I"⟩
abbrev cX9_codeOf : ByteArray := prog_11_method_26_code
def yX9_codeOf : MethodName := ⟨RX9, "codeOf", "([III)I"⟩
abbrev cX9_broken : ByteArray := prog_11_method_27_code
def yX9_broken : MethodName := ⟨RX9, "broken", "(I)I"⟩
abbrev cX9_newlyBroken : ByteArray := prog_11_method_28_code
def yX9_newlyBroken : MethodName := ⟨RX9, "newlyBroken", "([IIII)I"⟩
abbrev cX9_isDrifted : ByteArray := prog_11_method_29_code
def yX9_isDrifted : MethodName := ⟨RX9, "isDrifted", "([III)Z"⟩
abbrev cX9_drifted : ByteArray := prog_11_method_30_code
def yX9_drifted : MethodName := ⟨RX9, "drifted", "([II)I"⟩
abbrev cX9_ones : ByteArray := prog_11_method_31_code
def yX9_ones : MethodName := ⟨RX9, "ones", "(I)I"⟩
abbrev cX9_isQuarantined : ByteArray := prog_11_method_32_code
def yX9_isQuarantined : MethodName := ⟨RX9, "isQuarantined", "([II)Z"⟩
abbrev cX9_lacking : ByteArray := prog_11_method_33_code
def yX9_lacking : MethodName := ⟨RX9, "lacking", "([III)I"⟩
abbrev cX9_waitsForRings : ByteArray := prog_11_method_34_code
def yX9_waitsForRings : MethodName := ⟨RX9, "waitsForRings", "([III)Z"⟩
abbrev cX9_stateOf : ByteArray := prog_11_method_35_code
def yX9_stateOf : MethodName := ⟨RX9, "stateOf", "([III)I"⟩
abbrev cX9_nextOf : ByteArray := prog_11_method_36_code
def yX9_nextOf : MethodName := ⟨RX9, "nextOf", "([II)I"⟩
abbrev cX9_tickOn : ByteArray := prog_11_method_37_code
def yX9_tickOn : MethodName := ⟨RX9, "tickOn", "([I)V"⟩
abbrev cX9_calmNodes : ByteArray := prog_11_method_38_code
def yX9_calmNodes : MethodName := ⟨RX9, "calmNodes", "([I)I"⟩
abbrev cX9_about : ByteArray := prog_11_method_39_code
def yX9_about : MethodName := ⟨RX9, "about", "(I)I"⟩
abbrev cX9_digestOf : ByteArray := prog_11_method_40_code
def yX9_digestOf : MethodName := ⟨RX9, "digestOf", "([II)I"⟩
abbrev cX9_tell : ByteArray := prog_11_method_41_code
def yX9_tell : MethodName := ⟨RX9, "tell", "([III)I"⟩
abbrev cX9_node : ByteArray := prog_11_method_42_code
def yX9_node : MethodName := ⟨RX9, "node", "(II)I"⟩
abbrev cX9_version : ByteArray := prog_11_method_43_code
def yX9_version : MethodName := ⟨RX9, "version", "(IIZ)I"⟩
abbrev cX9_rule : ByteArray := prog_11_method_44_code
def yX9_rule : MethodName := ⟨RX9, "rule", "(II)I"⟩
abbrev cX9_approvals : ByteArray := prog_11_method_45_code
def yX9_approvals : MethodName := ⟨RX9, "approvals", "(II)I"⟩
abbrev cX9_quorum : ByteArray := prog_11_method_46_code
def yX9_quorum : MethodName := ⟨RX9, "quorum", "(I)I"⟩
abbrev cX9_wish : ByteArray := prog_11_method_47_code
def yX9_wish : MethodName := ⟨RX9, "wish", "(III)I"⟩
abbrev cX9_wishRing : ByteArray := prog_11_method_48_code
def yX9_wishRing : MethodName := ⟨RX9, "wishRing", "(III)I"⟩
abbrev cX9_drift : ByteArray := prog_11_method_49_code
def yX9_drift : MethodName := ⟨RX9, "drift", "(III)I"⟩
abbrev cX9_approve : ByteArray := prog_11_method_50_code
def yX9_approve : MethodName := ⟨RX9, "approve", "(III)I"⟩
abbrev cX9_dismiss : ByteArray := prog_11_method_51_code
def yX9_dismiss : MethodName := ⟨RX9, "dismiss", "(I)I"⟩
abbrev cX9_setQuorum : ByteArray := prog_11_method_52_code
def yX9_setQuorum : MethodName := ⟨RX9, "setQuorum", "(II)I"⟩
abbrev cX9_setFaults : ByteArray := prog_11_method_53_code
def yX9_setFaults : MethodName := ⟨RX9, "setFaults", "(II)I"⟩
abbrev cX9_pardon : ByteArray := prog_11_method_54_code
def yX9_pardon : MethodName := ⟨RX9, "pardon", "(I)I"⟩
abbrev cX9_tick : ByteArray := prog_11_method_55_code
def yX9_tick : MethodName := ⟨RX9, "tick", "(I)I"⟩
abbrev cX9_undo : ByteArray := prog_11_method_56_code
def yX9_undo : MethodName := ⟨RX9, "undo", "()I"⟩
abbrev cX9_state : ByteArray := prog_11_method_57_code
def yX9_state : MethodName := ⟨RX9, "state", "(II)I"⟩
abbrev cX9_next : ByteArray := prog_11_method_58_code
def yX9_next : MethodName := ⟨RX9, "next", "(I)I"⟩
abbrev cX9_breaks : ByteArray := prog_11_method_59_code
def yX9_breaks : MethodName := ⟨RX9, "breaks", "(III)I"⟩
abbrev cX9_holdsUp : ByteArray := prog_11_method_60_code
def yX9_holdsUp : MethodName := ⟨RX9, "holdsUp", "(I)I"⟩
abbrev cX9_missing : ByteArray := prog_11_method_61_code
def yX9_missing : MethodName := ⟨RX9, "missing", "(I)I"⟩
abbrev cX9_ahead : ByteArray := prog_11_method_62_code
def yX9_ahead : MethodName := ⟨RX9, "ahead", "(III)I"⟩
abbrev cX9_calmAfter : ByteArray := prog_11_method_63_code
def yX9_calmAfter : MethodName := ⟨RX9, "calmAfter", "()I"⟩
abbrev cX9_layWays : ByteArray := prog_11_method_64_code
def yX9_layWays : MethodName := ⟨RX9, "layWays", "(I)V"⟩
abbrev cX9_fewest : ByteArray := prog_11_method_65_code
def yX9_fewest : MethodName := ⟨RX9, "fewest", "(I)I"⟩
abbrev cX9_firstStep : ByteArray := prog_11_method_66_code
def yX9_firstStep : MethodName := ⟨RX9, "firstStep", "(I)I"⟩
abbrev cX9_step : ByteArray := prog_11_method_67_code
def yX9_step : MethodName := ⟨RX9, "step", "(II)I"⟩
abbrev cX9_layNeeds : ByteArray := prog_11_method_68_code
def yX9_layNeeds : MethodName := ⟨RX9, "layNeeds", "(II)V"⟩
abbrev cX9_needed : ByteArray := prog_11_method_69_code
def yX9_needed : MethodName := ⟨RX9, "needed", "(III)I"⟩
abbrev cX9_isPossible : ByteArray := prog_11_method_70_code
def yX9_isPossible : MethodName := ⟨RX9, "isPossible", "(II)Z"⟩
abbrev cX9_explains : ByteArray := prog_11_method_71_code
def yX9_explains : MethodName := ⟨RX9, "explains", "(II)I"⟩
abbrev cX9_distance : ByteArray := prog_11_method_72_code
def yX9_distance : MethodName := ⟨RX9, "distance", "(I)I"⟩
abbrev cX9_ranked : ByteArray := prog_11_method_73_code
def yX9_ranked : MethodName := ⟨RX9, "ranked", "(I)I"⟩
abbrev cX9_command : ByteArray := prog_11_method_74_code
def yX9_command : MethodName := ⟨RX9, "command", "(I)Z"⟩
abbrev cX9_groups : ByteArray := prog_11_method_75_code
def yX9_groups : MethodName := ⟨RX9, "groups", "(I)J"⟩
abbrev cX9_runScript : ByteArray := prog_11_method_76_code
def yX9_runScript : MethodName := ⟨RX9, "runScript", "(IJ)I"⟩
abbrev cX9_simulate : ByteArray := prog_11_method_77_code
def yX9_simulate : MethodName := ⟨RX9, "simulate", "(JI)I"⟩
abbrev cX9_save : ByteArray := prog_11_method_78_code
def yX9_save : MethodName := ⟨RX9, "save", "(I)I"⟩
abbrev cX9_restore : ByteArray := prog_11_method_79_code
def yX9_restore : MethodName := ⟨RX9, "restore", "(I)I"⟩
def RJx145de : String := "java/io/Serializable"
def TJx145de : u_T := fun k => match k with
  | _ => ("", "", "", false)
def tyJx145de : Nat → FieldType := fun k => match k with
  | _ => .int
abbrev wsJx145de0 : List Cond := u_ws RJx145de TJx145de 0
theorem nmJx145de : ∀ a, a < 0 → ∀ b, b < 0 → a ≠ b → (TJx145de a).2.1 ≠ (TJx145de b).2.1 := by decide +kernel
theorem tyJx145de_ok : ∀ k, k < 0 → parseFieldDescriptor (TJx145de k).2.2.1 = some (tyJx145de k) := by decide +kernel
def RJ6 : String := "java/lang/Integer"
def TJ6 : u_T := fun k => match k with
  | _ => ("", "", "", false)
def tyJ6 : Nat → FieldType := fun k => match k with
  | _ => .int
abbrev wsJ60 : List Cond := u_ws RJ6 TJ6 0
theorem nmJ6 : ∀ a, a < 0 → ∀ b, b < 0 → a ≠ b → (TJ6 a).2.1 ≠ (TJ6 b).2.1 := by decide +kernel
theorem tyJ6_ok : ∀ k, k < 0 → parseFieldDescriptor (TJ6 k).2.2.1 = some (tyJ6 k) := by decide +kernel
abbrev cJ6_bitCount_0f7a4 : ByteArray := prog_16_method_49_code
def yJ6_bitCount_0f7a4 : MethodName := ⟨RJ6, "bitCount", "(I)I"⟩
def RJ9 : String := "java/lang/Math"
def TJ9 : u_T := fun k => match k with
  | _ => ("", "", "", false)
def tyJ9 : Nat → FieldType := fun k => match k with
  | _ => .int
abbrev wsJ90 : List Cond := u_ws RJ9 TJ9 0
theorem nmJ9 : ∀ a, a < 0 → ∀ b, b < 0 → a ≠ b → (TJ9 a).2.1 ≠ (TJ9 b).2.1 := by decide +kernel
theorem tyJ9_ok : ∀ k, k < 0 → parseFieldDescriptor (TJ9 k).2.2.1 = some (tyJ9 k) := by decide +kernel
abbrev cJ9_max_7cf53 : ByteArray := prog_17_method_65_code
def yJ9_max_7cf53 : MethodName := ⟨RJ9, "max", "(II)I"⟩
abbrev cJ9_min_7cf53 : ByteArray := prog_17_method_69_code
def yJ9_min_7cf53 : MethodName := ⟨RJ9, "min", "(II)I"⟩
def RJ0 : String := "java/lang/String"
def TJ0 : u_T := fun k => match k with
  | _ => ("", "", "", false)
def tyJ0 : Nat → FieldType := fun k => match k with
  | _ => .int
abbrev wsJ00 : List Cond := u_ws RJ0 TJ0 0
theorem nmJ0 : ∀ a, a < 0 → ∀ b, b < 0 → a ≠ b → (TJ0 a).2.1 ≠ (TJ0 b).2.1 := by decide +kernel
theorem tyJ0_ok : ∀ k, k < 0 → parseFieldDescriptor (TJ0 k).2.2.1 = some (tyJ0 k) := by decide +kernel
def RJ10 : String := "java/lang/System"
def TJ10 : u_T := fun k => match k with
  | _ => ("", "", "", false)
def tyJ10 : Nat → FieldType := fun k => match k with
  | _ => .int
abbrev wsJ100 : List Cond := u_ws RJ10 TJ10 0
theorem nmJ10 : ∀ a, a < 0 → ∀ b, b < 0 → a ≠ b → (TJ10 a).2.1 ≠ (TJ10 b).2.1 := by decide +kernel
theorem tyJ10_ok : ∀ k, k < 0 → parseFieldDescriptor (TJ10 k).2.2.1 = some (tyJ10 k) := by decide +kernel
def RJ7 : String := "java/util/Arrays"
def TJ7 : u_T := fun k => match k with
  | _ => ("", "", "", false)
def tyJ7 : Nat → FieldType := fun k => match k with
  | _ => .int
abbrev wsJ70 : List Cond := u_ws RJ7 TJ7 0
theorem nmJ7 : ∀ a, a < 0 → ∀ b, b < 0 → a ≠ b → (TJ7 a).2.1 ≠ (TJ7 b).2.1 := by decide +kernel
theorem tyJ7_ok : ∀ k, k < 0 → parseFieldDescriptor (TJ7 k).2.2.1 = some (tyJ7 k) := by decide +kernel
abbrev cJ7_fill_53178 : ByteArray := prog_22_method_103_code
def yJ7_fill_53178 : MethodName := ⟨RJ7, "fill", "([II)V"⟩
def RL : String := "DesiredStateKeeperLaw"
abbrev cL_append : ByteArray := method_3_code
def yL_append : MethodName := ⟨RL, "append", "(LDesiredStateKeeper;I[J)I"⟩
abbrev cL_load : ByteArray := method_4_code
def yL_load : MethodName := ⟨RL, "load", "(LDesiredStateKeeper;[J)I"⟩
abbrev cL_about : ByteArray := method_5_code
def yL_about : MethodName := ⟨RL, "about", "(LDesiredStateKeeper;I[J)I"⟩
abbrev cL_node : ByteArray := method_6_code
def yL_node : MethodName := ⟨RL, "node", "(LDesiredStateKeeper;II[J)I"⟩
abbrev cL_version : ByteArray := method_7_code
def yL_version : MethodName := ⟨RL, "version", "(LDesiredStateKeeper;IIZ[J)I"⟩
abbrev cL_rule : ByteArray := method_8_code
def yL_rule : MethodName := ⟨RL, "rule", "(LDesiredStateKeeper;II[J)I"⟩
abbrev cL_approvals : ByteArray := method_9_code
def yL_approvals : MethodName := ⟨RL, "approvals", "(LDesiredStateKeeper;II[J)I"⟩
abbrev cL_quorum : ByteArray := method_10_code
def yL_quorum : MethodName := ⟨RL, "quorum", "(LDesiredStateKeeper;I[J)I"⟩
abbrev cL_wish : ByteArray := method_11_code
def yL_wish : MethodName := ⟨RL, "wish", "(LDesiredStateKeeper;III[J)I"⟩
abbrev cL_wishRing : ByteArray := method_12_code
def yL_wishRing : MethodName := ⟨RL, "wishRing", "(LDesiredStateKeeper;III[J)I"⟩
abbrev cL_drift : ByteArray := method_13_code
def yL_drift : MethodName := ⟨RL, "drift", "(LDesiredStateKeeper;III[J)I"⟩
abbrev cL_approve : ByteArray := method_14_code
def yL_approve : MethodName := ⟨RL, "approve", "(LDesiredStateKeeper;III[J)I"⟩
abbrev cL_dismiss : ByteArray := method_15_code
def yL_dismiss : MethodName := ⟨RL, "dismiss", "(LDesiredStateKeeper;I[J)I"⟩
abbrev cL_setQuorum : ByteArray := method_16_code
def yL_setQuorum : MethodName := ⟨RL, "setQuorum", "(LDesiredStateKeeper;II[J)I"⟩
abbrev cL_setFaults : ByteArray := method_17_code
def yL_setFaults : MethodName := ⟨RL, "setFaults", "(LDesiredStateKeeper;II[J)I"⟩
abbrev cL_pardon : ByteArray := method_18_code
def yL_pardon : MethodName := ⟨RL, "pardon", "(LDesiredStateKeeper;I[J)I"⟩
abbrev cL_tick : ByteArray := method_19_code
def yL_tick : MethodName := ⟨RL, "tick", "(LDesiredStateKeeper;I[J)I"⟩
abbrev cL_undo : ByteArray := method_20_code
def yL_undo : MethodName := ⟨RL, "undo", "(LDesiredStateKeeper;[J)I"⟩
abbrev cL_state : ByteArray := method_21_code
def yL_state : MethodName := ⟨RL, "state", "(LDesiredStateKeeper;II[J)I"⟩
abbrev cL_next : ByteArray := method_22_code
def yL_next : MethodName := ⟨RL, "next", "(LDesiredStateKeeper;I[J)I"⟩
abbrev cL_breaks : ByteArray := method_23_code
def yL_breaks : MethodName := ⟨RL, "breaks", "(LDesiredStateKeeper;III[J)I"⟩
abbrev cL_holdsUp : ByteArray := method_24_code
def yL_holdsUp : MethodName := ⟨RL, "holdsUp", "(LDesiredStateKeeper;I[J)I"⟩
abbrev cL_missing : ByteArray := method_25_code
def yL_missing : MethodName := ⟨RL, "missing", "(LDesiredStateKeeper;I[J)I"⟩
abbrev cL_ahead : ByteArray := method_26_code
def yL_ahead : MethodName := ⟨RL, "ahead", "(LDesiredStateKeeper;III[J)I"⟩
abbrev cL_fewest : ByteArray := method_27_code
def yL_fewest : MethodName := ⟨RL, "fewest", "(LDesiredStateKeeper;I[J)I"⟩
abbrev cL_step : ByteArray := method_28_code
def yL_step : MethodName := ⟨RL, "step", "(LDesiredStateKeeper;II[J)I"⟩
abbrev cL_needed : ByteArray := method_29_code
def yL_needed : MethodName := ⟨RL, "needed", "(LDesiredStateKeeper;III[J)I"⟩
abbrev cL_isPossible : ByteArray := method_30_code
def yL_isPossible : MethodName := ⟨RL, "isPossible", "(LDesiredStateKeeper;II[J)I"⟩
abbrev cL_explains : ByteArray := method_31_code
def yL_explains : MethodName := ⟨RL, "explains", "(LDesiredStateKeeper;II[J)I"⟩
abbrev cL_ranked : ByteArray := method_32_code
def yL_ranked : MethodName := ⟨RL, "ranked", "(LDesiredStateKeeper;I[J)I"⟩
abbrev cL_runScript : ByteArray := method_33_code
def yL_runScript : MethodName := ⟨RL, "runScript", "(LDesiredStateKeeper;IJ[J)I"⟩
abbrev cL_simulate : ByteArray := method_34_code
def yL_simulate : MethodName := ⟨RL, "simulate", "(LDesiredStateKeeper;JI[J)I"⟩
abbrev cL_save : ByteArray := method_35_code
def yL_save : MethodName := ⟨RL, "save", "(LDesiredStateKeeper;I[J)I"⟩
abbrev cL_restore : ByteArray := method_36_code
def yL_restore : MethodName := ⟨RL, "restore", "(LDesiredStateKeeper;I[J)I"⟩
abbrev cL_law : ByteArray := code
def yL_law : MethodName := ⟨RL, "law", "([I)Z"⟩
end
section
theorem dX0_versionIn_0 : decode cX0_versionIn 0 = .ok (.iload_n 0, 1) := by decide +kernel
theorem dX0_versionIn_1 : decode cX0_versionIn 1 = .ok (.iconst 2, 1) := by decide +kernel
theorem dX0_versionIn_2 : decode cX0_versionIn 2 = .ok (.iload_n 1, 1) := by decide +kernel
theorem dX0_versionIn_3 : decode cX0_versionIn 3 = .ok (.imul, 1) := by decide +kernel
theorem dX0_versionIn_4 : decode cX0_versionIn 4 = .ok (.ishr, 1) := by decide +kernel
theorem dX0_versionIn_5 : decode cX0_versionIn 5 = .ok (.iconst 3, 1) := by decide +kernel
theorem dX0_versionIn_6 : decode cX0_versionIn 6 = .ok (.iand, 1) := by decide +kernel
theorem dX0_versionIn_7 : decode cX0_versionIn 7 = .ok (.ireturn, 1) := by decide +kernel
theorem dX0_with_0 : decode cX0_with 0 = .ok (.iload_n 0, 1) := by decide +kernel
theorem dX0_with_1 : decode cX0_with 1 = .ok (.iconst 3, 1) := by decide +kernel
theorem dX0_with_2 : decode cX0_with 2 = .ok (.iconst 2, 1) := by decide +kernel
theorem dX0_with_3 : decode cX0_with 3 = .ok (.iload_n 1, 1) := by decide +kernel
theorem dX0_with_4 : decode cX0_with 4 = .ok (.imul, 1) := by decide +kernel
theorem dX0_with_5 : decode cX0_with 5 = .ok (.ishl, 1) := by decide +kernel
theorem dX0_with_6 : decode cX0_with 6 = .ok (.iconst (-1), 1) := by decide +kernel
theorem dX0_with_7 : decode cX0_with 7 = .ok (.ixor, 1) := by decide +kernel
theorem dX0_with_8 : decode cX0_with 8 = .ok (.iand, 1) := by decide +kernel
theorem dX0_with_9 : decode cX0_with 9 = .ok (.iload_n 2, 1) := by decide +kernel
theorem dX0_with_10 : decode cX0_with 10 = .ok (.iconst 2, 1) := by decide +kernel
theorem dX0_with_11 : decode cX0_with 11 = .ok (.iload_n 1, 1) := by decide +kernel
theorem dX0_with_12 : decode cX0_with 12 = .ok (.imul, 1) := by decide +kernel
theorem dX0_with_13 : decode cX0_with 13 = .ok (.ishl, 1) := by decide +kernel
theorem dX0_with_14 : decode cX0_with 14 = .ok (.ior, 1) := by decide +kernel
theorem dX0_with_15 : decode cX0_with 15 = .ok (.ireturn, 1) := by decide +kernel
theorem dX0_change_0 : decode cX0_change 0 = .ok (.iconst 4, 1) := by decide +kernel
theorem dX0_change_1 : decode cX0_change 1 = .ok (.iload_n 0, 1) := by decide +kernel
theorem dX0_change_2 : decode cX0_change 2 = .ok (.imul, 1) := by decide +kernel
theorem dX0_change_3 : decode cX0_change 3 = .ok (.iload_n 1, 1) := by decide +kernel
theorem dX0_change_4 : decode cX0_change 4 = .ok (.iadd, 1) := by decide +kernel
theorem dX0_change_5 : decode cX0_change 5 = .ok (.ireturn, 1) := by decide +kernel
theorem dX1_succeeds_0 : decode cX1_succeeds 0 = .ok (.iload_n 1, 1) := by decide +kernel
theorem dX1_succeeds_1 : decode cX1_succeeds 1 = .ok (.bipush 100, 2) := by decide +kernel
theorem dX1_succeeds_3 : decode cX1_succeeds 3 = .ok (.idiv, 1) := by decide +kernel
theorem dX1_succeeds_4 : decode cX1_succeeds 4 = .ok (.bipush 10, 2) := by decide +kernel
theorem dX1_succeeds_6 : decode cX1_succeeds 6 = .ok (.irem, 1) := by decide +kernel
theorem dX1_succeeds_7 : decode cX1_succeeds 7 = .ok (.istore_n 2, 1) := by decide +kernel
theorem dX1_succeeds_8 : decode cX1_succeeds 8 = .ok (.iload_n 1, 1) := by decide +kernel
theorem dX1_succeeds_9 : decode cX1_succeeds 9 = .ok (.bipush 10, 2) := by decide +kernel
theorem dX1_succeeds_11 : decode cX1_succeeds 11 = .ok (.idiv, 1) := by decide +kernel
theorem dX1_succeeds_12 : decode cX1_succeeds 12 = .ok (.bipush 10, 2) := by decide +kernel
theorem dX1_succeeds_14 : decode cX1_succeeds 14 = .ok (.irem, 1) := by decide +kernel
theorem dX1_succeeds_15 : decode cX1_succeeds 15 = .ok (.istore_n 3, 1) := by decide +kernel
theorem dX1_succeeds_16 : decode cX1_succeeds 16 = .ok (.iload_n 1, 1) := by decide +kernel
theorem dX1_succeeds_17 : decode cX1_succeeds 17 = .ok (.bipush 10, 2) := by decide +kernel
theorem dX1_succeeds_19 : decode cX1_succeeds 19 = .ok (.irem, 1) := by decide +kernel
theorem dX1_succeeds_20 : decode cX1_succeeds 20 = .ok (.istore 4, 2) := by decide +kernel
theorem dX1_succeeds_22 : decode cX1_succeeds 22 = .ok (.iload_n 1, 1) := by decide +kernel
theorem dX1_succeeds_23 : decode cX1_succeeds 23 = .ok (.sipush 1000, 3) := by decide +kernel
theorem dX1_succeeds_26 : decode cX1_succeeds 26 = .ok (.idiv, 1) := by decide +kernel
theorem dX1_succeeds_27 : decode cX1_succeeds 27 = .ok (.tableswitch 234 1 8 #[45, 61, 77, 86, 128, 148, 181, 210], 45) := by decide +kernel
theorem dX1_succeeds_72 : decode cX1_succeeds 72 = .ok (.aload_n 0, 1) := by decide +kernel
theorem dX1_succeeds_73 : decode cX1_succeeds 73 = .ok (.getfield 9, 3) := by decide +kernel
theorem dX1_succeeds_76 : decode cX1_succeeds 76 = .ok (.aload_n 0, 1) := by decide +kernel
theorem dX1_succeeds_77 : decode cX1_succeeds 77 = .ok (.getfield 15, 3) := by decide +kernel
theorem dX1_succeeds_80 : decode cX1_succeeds 80 = .ok (.iload_n 2, 1) := by decide +kernel
theorem dX1_succeeds_81 : decode cX1_succeeds 81 = .ok (.iload_n 3, 1) := by decide +kernel
theorem dX1_succeeds_82 : decode cX1_succeeds 82 = .ok (.iload 4, 2) := by decide +kernel
theorem dX1_succeeds_84 : decode cX1_succeeds 84 = .ok (.invokestatic 19, 3) := by decide +kernel
theorem dX1_succeeds_87 : decode cX1_succeeds 87 = .ok (.ireturn, 1) := by decide +kernel
theorem dX1_succeeds_88 : decode cX1_succeeds 88 = .ok (.aload_n 0, 1) := by decide +kernel
theorem dX1_succeeds_89 : decode cX1_succeeds 89 = .ok (.getfield 9, 3) := by decide +kernel
theorem dX1_succeeds_92 : decode cX1_succeeds 92 = .ok (.aload_n 0, 1) := by decide +kernel
theorem dX1_succeeds_93 : decode cX1_succeeds 93 = .ok (.getfield 25, 3) := by decide +kernel
theorem dX1_succeeds_96 : decode cX1_succeeds 96 = .ok (.iload_n 2, 1) := by decide +kernel
theorem dX1_succeeds_97 : decode cX1_succeeds 97 = .ok (.iload_n 3, 1) := by decide +kernel
theorem dX1_succeeds_98 : decode cX1_succeeds 98 = .ok (.iload 4, 2) := by decide +kernel
theorem dX1_succeeds_100 : decode cX1_succeeds 100 = .ok (.invokestatic 19, 3) := by decide +kernel
theorem dX1_succeeds_103 : decode cX1_succeeds 103 = .ok (.ireturn, 1) := by decide +kernel
theorem dX1_succeeds_104 : decode cX1_succeeds 104 = .ok (.aload_n 0, 1) := by decide +kernel
theorem dX1_succeeds_105 : decode cX1_succeeds 105 = .ok (.iload_n 2, 1) := by decide +kernel
theorem dX1_succeeds_106 : decode cX1_succeeds 106 = .ok (.iload_n 3, 1) := by decide +kernel
theorem dX1_succeeds_107 : decode cX1_succeeds 107 = .ok (.iload 4, 2) := by decide +kernel
theorem dX1_succeeds_109 : decode cX1_succeeds 109 = .ok (.invokestatic 28, 3) := by decide +kernel
theorem dX1_succeeds_112 : decode cX1_succeeds 112 = .ok (.ireturn, 1) := by decide +kernel
theorem dX1_succeeds_113 : decode cX1_succeeds 113 = .ok (.iload_n 2, 1) := by decide +kernel
theorem dX1_succeeds_114 : decode cX1_succeeds 114 = .ok (.ifCond .ne 26, 3) := by decide +kernel
theorem dX1_succeeds_117 : decode cX1_succeeds 117 = .ok (.bipush 10, 2) := by decide +kernel
theorem dX1_succeeds_119 : decode cX1_succeeds 119 = .ok (.iload_n 3, 1) := by decide +kernel
theorem dX1_succeeds_120 : decode cX1_succeeds 120 = .ok (.imul, 1) := by decide +kernel
theorem dX1_succeeds_121 : decode cX1_succeeds 121 = .ok (.iload 4, 2) := by decide +kernel
theorem dX1_succeeds_123 : decode cX1_succeeds 123 = .ok (.iadd, 1) := by decide +kernel
theorem dX1_succeeds_124 : decode cX1_succeeds 124 = .ok (.iconst 1, 1) := by decide +kernel
theorem dX1_succeeds_125 : decode cX1_succeeds 125 = .ok (.if_icmp .lt 15, 3) := by decide +kernel
theorem dX1_succeeds_128 : decode cX1_succeeds 128 = .ok (.bipush 10, 2) := by decide +kernel
theorem dX1_succeeds_130 : decode cX1_succeeds 130 = .ok (.iload_n 3, 1) := by decide +kernel
theorem dX1_succeeds_131 : decode cX1_succeeds 131 = .ok (.imul, 1) := by decide +kernel
theorem dX1_succeeds_132 : decode cX1_succeeds 132 = .ok (.iload 4, 2) := by decide +kernel
theorem dX1_succeeds_134 : decode cX1_succeeds 134 = .ok (.iadd, 1) := by decide +kernel
theorem dX1_succeeds_135 : decode cX1_succeeds 135 = .ok (.bipush 50, 2) := by decide +kernel
theorem dX1_succeeds_137 : decode cX1_succeeds 137 = .ok (.if_icmp .le 5, 3) := by decide +kernel
theorem dX1_succeeds_140 : decode cX1_succeeds 140 = .ok (.iconst 0, 1) := by decide +kernel
theorem dX1_succeeds_141 : decode cX1_succeeds 141 = .ok (.ireturn, 1) := by decide +kernel
theorem dX1_succeeds_142 : decode cX1_succeeds 142 = .ok (.aload_n 0, 1) := by decide +kernel
theorem dX1_succeeds_143 : decode cX1_succeeds 143 = .ok (.bipush 10, 2) := by decide +kernel
theorem dX1_succeeds_145 : decode cX1_succeeds 145 = .ok (.iload_n 3, 1) := by decide +kernel
theorem dX1_succeeds_146 : decode cX1_succeeds 146 = .ok (.imul, 1) := by decide +kernel
theorem dX1_succeeds_147 : decode cX1_succeeds 147 = .ok (.iload 4, 2) := by decide +kernel
theorem dX1_succeeds_149 : decode cX1_succeeds 149 = .ok (.iadd, 1) := by decide +kernel
theorem dX1_succeeds_150 : decode cX1_succeeds 150 = .ok (.invokevirtual 32, 3) := by decide +kernel
theorem dX1_succeeds_153 : decode cX1_succeeds 153 = .ok (.iconst 1, 1) := by decide +kernel
theorem dX1_succeeds_154 : decode cX1_succeeds 154 = .ok (.ireturn, 1) := by decide +kernel
theorem dX1_succeeds_155 : decode cX1_succeeds 155 = .ok (.iload_n 3, 1) := by decide +kernel
theorem dX1_succeeds_156 : decode cX1_succeeds 156 = .ok (.ifCond .ne 17, 3) := by decide +kernel
theorem dX1_succeeds_159 : decode cX1_succeeds 159 = .ok (.aload_n 0, 1) := by decide +kernel
theorem dX1_succeeds_160 : decode cX1_succeeds 160 = .ok (.iload_n 2, 1) := by decide +kernel
theorem dX1_succeeds_161 : decode cX1_succeeds 161 = .ok (.iload 4, 2) := by decide +kernel
theorem dX1_succeeds_163 : decode cX1_succeeds 163 = .ok (.invokestatic 36, 3) := by decide +kernel
theorem dX1_succeeds_166 : decode cX1_succeeds 166 = .ok (.ifCond .eq 7, 3) := by decide +kernel
theorem dX1_succeeds_169 : decode cX1_succeeds 169 = .ok (.iconst 1, 1) := by decide +kernel
theorem dX1_succeeds_170 : decode cX1_succeeds 170 = .ok (.goto 4, 3) := by decide +kernel
theorem dX1_succeeds_173 : decode cX1_succeeds 173 = .ok (.iconst 0, 1) := by decide +kernel
theorem dX1_succeeds_174 : decode cX1_succeeds 174 = .ok (.ireturn, 1) := by decide +kernel
theorem dX1_succeeds_175 : decode cX1_succeeds 175 = .ok (.aload_n 0, 1) := by decide +kernel
theorem dX1_succeeds_176 : decode cX1_succeeds 176 = .ok (.getfield 9, 3) := by decide +kernel
theorem dX1_succeeds_179 : decode cX1_succeeds 179 = .ok (.iload_n 2, 1) := by decide +kernel
theorem dX1_succeeds_180 : decode cX1_succeeds 180 = .ok (.iload_n 3, 1) := by decide +kernel
theorem dX1_succeeds_181 : decode cX1_succeeds 181 = .ok (.invokevirtual 40, 3) := by decide +kernel
theorem dX1_succeeds_184 : decode cX1_succeeds 184 = .ok (.ifCond .eq 22, 3) := by decide +kernel
theorem dX1_succeeds_187 : decode cX1_succeeds 187 = .ok (.aload_n 0, 1) := by decide +kernel
theorem dX1_succeeds_188 : decode cX1_succeeds 188 = .ok (.getfield 25, 3) := by decide +kernel
theorem dX1_succeeds_191 : decode cX1_succeeds 191 = .ok (.iload_n 2, 1) := by decide +kernel
theorem dX1_succeeds_192 : decode cX1_succeeds 192 = .ok (.iaload, 1) := by decide +kernel
theorem dX1_succeeds_193 : decode cX1_succeeds 193 = .ok (.iload_n 3, 1) := by decide +kernel
theorem dX1_succeeds_194 : decode cX1_succeeds 194 = .ok (.invokestatic 46, 3) := by decide +kernel
theorem dX1_succeeds_197 : decode cX1_succeeds 197 = .ok (.iload 4, 2) := by decide +kernel
theorem dX1_succeeds_199 : decode cX1_succeeds 199 = .ok (.if_icmp .ne 7, 3) := by decide +kernel
theorem dX1_succeeds_202 : decode cX1_succeeds 202 = .ok (.iconst 1, 1) := by decide +kernel
theorem dX1_succeeds_203 : decode cX1_succeeds 203 = .ok (.goto 4, 3) := by decide +kernel
theorem dX1_succeeds_206 : decode cX1_succeeds 206 = .ok (.iconst 0, 1) := by decide +kernel
theorem dX1_succeeds_207 : decode cX1_succeeds 207 = .ok (.ireturn, 1) := by decide +kernel
theorem dX1_succeeds_208 : decode cX1_succeeds 208 = .ok (.aload_n 0, 1) := by decide +kernel
theorem dX1_succeeds_209 : decode cX1_succeeds 209 = .ok (.getfield 9, 3) := by decide +kernel
theorem dX1_succeeds_212 : decode cX1_succeeds 212 = .ok (.iload_n 2, 1) := by decide +kernel
theorem dX1_succeeds_213 : decode cX1_succeeds 213 = .ok (.iload_n 3, 1) := by decide +kernel
theorem dX1_succeeds_214 : decode cX1_succeeds 214 = .ok (.invokevirtual 40, 3) := by decide +kernel
theorem dX1_succeeds_217 : decode cX1_succeeds 217 = .ok (.ifCond .eq 18, 3) := by decide +kernel
theorem dX1_succeeds_220 : decode cX1_succeeds 220 = .ok (.aload_n 0, 1) := by decide +kernel
theorem dX1_succeeds_221 : decode cX1_succeeds 221 = .ok (.iload_n 2, 1) := by decide +kernel
theorem dX1_succeeds_222 : decode cX1_succeeds 222 = .ok (.iload_n 3, 1) := by decide +kernel
theorem dX1_succeeds_223 : decode cX1_succeeds 223 = .ok (.invokevirtual 52, 3) := by decide +kernel
theorem dX1_succeeds_226 : decode cX1_succeeds 226 = .ok (.iload 4, 2) := by decide +kernel
theorem dX1_succeeds_228 : decode cX1_succeeds 228 = .ok (.if_icmp .ne 7, 3) := by decide +kernel
theorem dX1_succeeds_231 : decode cX1_succeeds 231 = .ok (.iconst 1, 1) := by decide +kernel
theorem dX1_succeeds_232 : decode cX1_succeeds 232 = .ok (.goto 4, 3) := by decide +kernel
theorem dX1_succeeds_235 : decode cX1_succeeds 235 = .ok (.iconst 0, 1) := by decide +kernel
theorem dX1_succeeds_236 : decode cX1_succeeds 236 = .ok (.ireturn, 1) := by decide +kernel
theorem dX1_succeeds_237 : decode cX1_succeeds 237 = .ok (.iload_n 2, 1) := by decide +kernel
theorem dX1_succeeds_238 : decode cX1_succeeds 238 = .ok (.ifCond .ne 21, 3) := by decide +kernel
theorem dX1_succeeds_241 : decode cX1_succeeds 241 = .ok (.aload_n 0, 1) := by decide +kernel
theorem dX1_succeeds_242 : decode cX1_succeeds 242 = .ok (.getfield 55, 3) := by decide +kernel
theorem dX1_succeeds_245 : decode cX1_succeeds 245 = .ok (.bipush 10, 2) := by decide +kernel
theorem dX1_succeeds_247 : decode cX1_succeeds 247 = .ok (.iload_n 3, 1) := by decide +kernel
theorem dX1_succeeds_248 : decode cX1_succeeds 248 = .ok (.imul, 1) := by decide +kernel
theorem dX1_succeeds_249 : decode cX1_succeeds 249 = .ok (.iload 4, 2) := by decide +kernel
theorem dX1_succeeds_251 : decode cX1_succeeds 251 = .ok (.iadd, 1) := by decide +kernel
theorem dX1_succeeds_252 : decode cX1_succeeds 252 = .ok (.if_icmp .lt 7, 3) := by decide +kernel
theorem dX1_succeeds_255 : decode cX1_succeeds 255 = .ok (.iconst 1, 1) := by decide +kernel
theorem dX1_succeeds_256 : decode cX1_succeeds 256 = .ok (.goto 4, 3) := by decide +kernel
theorem dX1_succeeds_259 : decode cX1_succeeds 259 = .ok (.iconst 0, 1) := by decide +kernel
theorem dX1_succeeds_260 : decode cX1_succeeds 260 = .ok (.ireturn, 1) := by decide +kernel
theorem dX1_succeeds_261 : decode cX1_succeeds 261 = .ok (.iconst 0, 1) := by decide +kernel
theorem dX1_succeeds_262 : decode cX1_succeeds 262 = .ok (.ireturn, 1) := by decide +kernel
theorem dX1_setVersion_0 : decode cX1_setVersion 0 = .ok (.aload_n 0, 1) := by decide +kernel
theorem dX1_setVersion_1 : decode cX1_setVersion 1 = .ok (.iload_n 2, 1) := by decide +kernel
theorem dX1_setVersion_2 : decode cX1_setVersion 2 = .ok (.iload_n 3, 1) := by decide +kernel
theorem dX1_setVersion_3 : decode cX1_setVersion 3 = .ok (.invokevirtual 40, 3) := by decide +kernel
theorem dX1_setVersion_6 : decode cX1_setVersion 6 = .ok (.ifCond .eq 9, 3) := by decide +kernel
theorem dX1_setVersion_9 : decode cX1_setVersion 9 = .ok (.iload 4, 2) := by decide +kernel
theorem dX1_setVersion_11 : decode cX1_setVersion 11 = .ok (.iconst 3, 1) := by decide +kernel
theorem dX1_setVersion_12 : decode cX1_setVersion 12 = .ok (.if_icmp .le 5, 3) := by decide +kernel
theorem dX1_setVersion_15 : decode cX1_setVersion 15 = .ok (.iconst 0, 1) := by decide +kernel
theorem dX1_setVersion_16 : decode cX1_setVersion 16 = .ok (.ireturn, 1) := by decide +kernel
theorem dX1_setVersion_17 : decode cX1_setVersion 17 = .ok (.aload_n 1, 1) := by decide +kernel
theorem dX1_setVersion_18 : decode cX1_setVersion 18 = .ok (.iload_n 2, 1) := by decide +kernel
theorem dX1_setVersion_19 : decode cX1_setVersion 19 = .ok (.aload_n 1, 1) := by decide +kernel
theorem dX1_setVersion_20 : decode cX1_setVersion 20 = .ok (.iload_n 2, 1) := by decide +kernel
theorem dX1_setVersion_21 : decode cX1_setVersion 21 = .ok (.iaload, 1) := by decide +kernel
theorem dX1_setVersion_22 : decode cX1_setVersion 22 = .ok (.iload_n 3, 1) := by decide +kernel
theorem dX1_setVersion_23 : decode cX1_setVersion 23 = .ok (.iload 4, 2) := by decide +kernel
theorem dX1_setVersion_25 : decode cX1_setVersion 25 = .ok (.invokestatic 59, 3) := by decide +kernel
theorem dX1_setVersion_28 : decode cX1_setVersion 28 = .ok (.iastore, 1) := by decide +kernel
theorem dX1_setVersion_29 : decode cX1_setVersion 29 = .ok (.iconst 1, 1) := by decide +kernel
theorem dX1_setVersion_30 : decode cX1_setVersion 30 = .ok (.ireturn, 1) := by decide +kernel
theorem dX1_addApproval_0 : decode cX1_addApproval 0 = .ok (.iload_n 1, 1) := by decide +kernel
theorem dX1_addApproval_1 : decode cX1_addApproval 1 = .ok (.aload_n 0, 1) := by decide +kernel
theorem dX1_addApproval_2 : decode cX1_addApproval 2 = .ok (.getfield 9, 3) := by decide +kernel
theorem dX1_addApproval_5 : decode cX1_addApproval 5 = .ok (.getfield 63, 3) := by decide +kernel
theorem dX1_addApproval_8 : decode cX1_addApproval 8 = .ok (.if_icmp .ge 13, 3) := by decide +kernel
theorem dX1_addApproval_11 : decode cX1_addApproval 11 = .ok (.iload_n 2, 1) := by decide +kernel
theorem dX1_addApproval_12 : decode cX1_addApproval 12 = .ok (.iconst 3, 1) := by decide +kernel
theorem dX1_addApproval_13 : decode cX1_addApproval 13 = .ok (.if_icmp .gt 8, 3) := by decide +kernel
theorem dX1_addApproval_16 : decode cX1_addApproval 16 = .ok (.iload_n 3, 1) := by decide +kernel
theorem dX1_addApproval_17 : decode cX1_addApproval 17 = .ok (.iconst 5, 1) := by decide +kernel
theorem dX1_addApproval_18 : decode cX1_addApproval 18 = .ok (.if_icmp .lt 5, 3) := by decide +kernel
theorem dX1_addApproval_21 : decode cX1_addApproval 21 = .ok (.iconst 0, 1) := by decide +kernel
theorem dX1_addApproval_22 : decode cX1_addApproval 22 = .ok (.ireturn, 1) := by decide +kernel
theorem dX1_addApproval_23 : decode cX1_addApproval 23 = .ok (.aload_n 0, 1) := by decide +kernel
theorem dX1_addApproval_24 : decode cX1_addApproval 24 = .ok (.getfield 66, 3) := by decide +kernel
theorem dX1_addApproval_27 : decode cX1_addApproval 27 = .ok (.iload_n 1, 1) := by decide +kernel
theorem dX1_addApproval_28 : decode cX1_addApproval 28 = .ok (.iload_n 2, 1) := by decide +kernel
theorem dX1_addApproval_29 : decode cX1_addApproval 29 = .ok (.invokestatic 69, 3) := by decide +kernel
theorem dX1_addApproval_32 : decode cX1_addApproval 32 = .ok (.dup2, 1) := by decide +kernel
theorem dX1_addApproval_33 : decode cX1_addApproval 33 = .ok (.iaload, 1) := by decide +kernel
theorem dX1_addApproval_34 : decode cX1_addApproval 34 = .ok (.iconst 1, 1) := by decide +kernel
theorem dX1_addApproval_35 : decode cX1_addApproval 35 = .ok (.iload_n 3, 1) := by decide +kernel
theorem dX1_addApproval_36 : decode cX1_addApproval 36 = .ok (.ishl, 1) := by decide +kernel
theorem dX1_addApproval_37 : decode cX1_addApproval 37 = .ok (.ior, 1) := by decide +kernel
theorem dX1_addApproval_38 : decode cX1_addApproval 38 = .ok (.iastore, 1) := by decide +kernel
theorem dX1_addApproval_39 : decode cX1_addApproval 39 = .ok (.iconst 1, 1) := by decide +kernel
theorem dX1_addApproval_40 : decode cX1_addApproval 40 = .ok (.ireturn, 1) := by decide +kernel
theorem dX1_giveFaults_0 : decode cX1_giveFaults 0 = .ok (.iload_n 1, 1) := by decide +kernel
theorem dX1_giveFaults_1 : decode cX1_giveFaults 1 = .ok (.aload_n 0, 1) := by decide +kernel
theorem dX1_giveFaults_2 : decode cX1_giveFaults 2 = .ok (.getfield 9, 3) := by decide +kernel
theorem dX1_giveFaults_5 : decode cX1_giveFaults 5 = .ok (.getfield 72, 3) := by decide +kernel
theorem dX1_giveFaults_8 : decode cX1_giveFaults 8 = .ok (.if_icmp .lt 5, 3) := by decide +kernel
theorem dX1_giveFaults_11 : decode cX1_giveFaults 11 = .ok (.iconst 0, 1) := by decide +kernel
theorem dX1_giveFaults_12 : decode cX1_giveFaults 12 = .ok (.ireturn, 1) := by decide +kernel
theorem dX1_giveFaults_13 : decode cX1_giveFaults 13 = .ok (.aload_n 0, 1) := by decide +kernel
theorem dX1_giveFaults_14 : decode cX1_giveFaults 14 = .ok (.getfield 75, 3) := by decide +kernel
theorem dX1_giveFaults_17 : decode cX1_giveFaults 17 = .ok (.iload_n 1, 1) := by decide +kernel
theorem dX1_giveFaults_18 : decode cX1_giveFaults 18 = .ok (.iload_n 2, 1) := by decide +kernel
theorem dX1_giveFaults_19 : decode cX1_giveFaults 19 = .ok (.iastore, 1) := by decide +kernel
theorem dX1_giveFaults_20 : decode cX1_giveFaults 20 = .ok (.iconst 1, 1) := by decide +kernel
theorem dX1_giveFaults_21 : decode cX1_giveFaults 21 = .ok (.ireturn, 1) := by decide +kernel
theorem dX2_init_0 : decode cX2_init 0 = .ok (.aload_n 0, 1) := by decide +kernel
theorem dX2_init_1 : decode cX2_init 1 = .ok (.invokespecial 3, 3) := by decide +kernel
theorem dX2_init_4 : decode cX2_init 4 = .ok (.aload_n 0, 1) := by decide +kernel
theorem dX2_init_5 : decode cX2_init 5 = .ok (.bipush 14, 2) := by decide +kernel
theorem dX2_init_7 : decode cX2_init 7 = .ok (.anewarray 9, 3) := by decide +kernel
theorem dX2_init_10 : decode cX2_init 10 = .ok (.putfield 11, 3) := by decide +kernel
theorem dX2_init_13 : decode cX2_init 13 = .ok (.iconst 0, 1) := by decide +kernel
theorem dX2_init_14 : decode cX2_init 14 = .ok (.istore_n 2, 1) := by decide +kernel
theorem dX2_init_15 : decode cX2_init 15 = .ok (.iload_n 2, 1) := by decide +kernel
theorem dX2_init_16 : decode cX2_init 16 = .ok (.bipush 14, 2) := by decide +kernel
theorem dX2_init_18 : decode cX2_init 18 = .ok (.if_icmp .ge 23, 3) := by decide +kernel
theorem dX2_init_21 : decode cX2_init 21 = .ok (.aload_n 0, 1) := by decide +kernel
theorem dX2_init_22 : decode cX2_init 22 = .ok (.getfield 11, 3) := by decide +kernel
theorem dX2_init_25 : decode cX2_init 25 = .ok (.iload_n 2, 1) := by decide +kernel
theorem dX2_init_26 : decode cX2_init 26 = .ok (.new 9, 3) := by decide +kernel
theorem dX2_init_29 : decode cX2_init 29 = .ok (.dup, 1) := by decide +kernel
theorem dX2_init_30 : decode cX2_init 30 = .ok (.aload_n 1, 1) := by decide +kernel
theorem dX2_init_31 : decode cX2_init 31 = .ok (.invokespecial 17, 3) := by decide +kernel
theorem dX2_init_34 : decode cX2_init 34 = .ok (.aastore, 1) := by decide +kernel
theorem dX2_init_35 : decode cX2_init 35 = .ok (.iinc 2 1, 3) := by decide +kernel
theorem dX2_init_38 : decode cX2_init 38 = .ok (.goto (-23), 3) := by decide +kernel
theorem dX2_init_41 : decode cX2_init 41 = .ok (.return_, 1) := by decide +kernel
theorem dX2_forget_0 : decode cX2_forget 0 = .ok (.aload_n 0, 1) := by decide +kernel
theorem dX2_forget_1 : decode cX2_forget 1 = .ok (.iconst 0, 1) := by decide +kernel
theorem dX2_forget_2 : decode cX2_forget 2 = .ok (.putfield 20, 3) := by decide +kernel
theorem dX2_forget_5 : decode cX2_forget 5 = .ok (.return_, 1) := by decide +kernel
theorem dX2_remember_0 : decode cX2_remember 0 = .ok (.aload_n 0, 1) := by decide +kernel
theorem dX2_remember_1 : decode cX2_remember 1 = .ok (.aload_n 0, 1) := by decide +kernel
theorem dX2_remember_2 : decode cX2_remember 2 = .ok (.getfield 24, 3) := by decide +kernel
theorem dX2_remember_5 : decode cX2_remember 5 = .ok (.iconst 1, 1) := by decide +kernel
theorem dX2_remember_6 : decode cX2_remember 6 = .ok (.iadd, 1) := by decide +kernel
theorem dX2_remember_7 : decode cX2_remember 7 = .ok (.bipush 14, 2) := by decide +kernel
theorem dX2_remember_9 : decode cX2_remember 9 = .ok (.if_icmp .ge 12, 3) := by decide +kernel
theorem dX2_remember_12 : decode cX2_remember 12 = .ok (.aload_n 0, 1) := by decide +kernel
theorem dX2_remember_13 : decode cX2_remember 13 = .ok (.getfield 24, 3) := by decide +kernel
theorem dX2_remember_16 : decode cX2_remember 16 = .ok (.iconst 1, 1) := by decide +kernel
theorem dX2_remember_17 : decode cX2_remember 17 = .ok (.iadd, 1) := by decide +kernel
theorem dX2_remember_18 : decode cX2_remember 18 = .ok (.goto 4, 3) := by decide +kernel
theorem dX2_remember_21 : decode cX2_remember 21 = .ok (.iconst 0, 1) := by decide +kernel
theorem dX2_remember_22 : decode cX2_remember 22 = .ok (.putfield 24, 3) := by decide +kernel
theorem dX2_remember_25 : decode cX2_remember 25 = .ok (.aload_n 0, 1) := by decide +kernel
theorem dX2_remember_26 : decode cX2_remember 26 = .ok (.getfield 11, 3) := by decide +kernel
theorem dX2_remember_29 : decode cX2_remember 29 = .ok (.aload_n 0, 1) := by decide +kernel
theorem dX2_remember_30 : decode cX2_remember 30 = .ok (.getfield 24, 3) := by decide +kernel
theorem dX2_remember_33 : decode cX2_remember 33 = .ok (.aaload, 1) := by decide +kernel
theorem dX2_remember_34 : decode cX2_remember 34 = .ok (.aload_n 1, 1) := by decide +kernel
theorem dX2_remember_35 : decode cX2_remember 35 = .ok (.invokevirtual 27, 3) := by decide +kernel
theorem dX2_remember_38 : decode cX2_remember 38 = .ok (.aload_n 0, 1) := by decide +kernel
theorem dX2_remember_39 : decode cX2_remember 39 = .ok (.aload_n 0, 1) := by decide +kernel
theorem dX2_remember_40 : decode cX2_remember 40 = .ok (.getfield 20, 3) := by decide +kernel
theorem dX2_remember_43 : decode cX2_remember 43 = .ok (.iconst 1, 1) := by decide +kernel
theorem dX2_remember_44 : decode cX2_remember 44 = .ok (.iadd, 1) := by decide +kernel
theorem dX2_remember_45 : decode cX2_remember 45 = .ok (.bipush 14, 2) := by decide +kernel
theorem dX2_remember_47 : decode cX2_remember 47 = .ok (.invokestatic 31, 3) := by decide +kernel
theorem dX2_remember_50 : decode cX2_remember 50 = .ok (.putfield 20, 3) := by decide +kernel
theorem dX2_remember_53 : decode cX2_remember 53 = .ok (.return_, 1) := by decide +kernel
theorem dX2_takeBack_0 : decode cX2_takeBack 0 = .ok (.aload_n 0, 1) := by decide +kernel
theorem dX2_takeBack_1 : decode cX2_takeBack 1 = .ok (.getfield 20, 3) := by decide +kernel
theorem dX2_takeBack_4 : decode cX2_takeBack 4 = .ok (.ifCond .ne 4, 3) := by decide +kernel
theorem dX2_takeBack_7 : decode cX2_takeBack 7 = .ok (.return_, 1) := by decide +kernel
theorem dX2_takeBack_8 : decode cX2_takeBack 8 = .ok (.aload_n 1, 1) := by decide +kernel
theorem dX2_takeBack_9 : decode cX2_takeBack 9 = .ok (.aload_n 0, 1) := by decide +kernel
theorem dX2_takeBack_10 : decode cX2_takeBack 10 = .ok (.getfield 11, 3) := by decide +kernel
theorem dX2_takeBack_13 : decode cX2_takeBack 13 = .ok (.aload_n 0, 1) := by decide +kernel
theorem dX2_takeBack_14 : decode cX2_takeBack 14 = .ok (.getfield 24, 3) := by decide +kernel
theorem dX2_takeBack_17 : decode cX2_takeBack 17 = .ok (.aaload, 1) := by decide +kernel
theorem dX2_takeBack_18 : decode cX2_takeBack 18 = .ok (.invokevirtual 27, 3) := by decide +kernel
theorem dX2_takeBack_21 : decode cX2_takeBack 21 = .ok (.aload_n 0, 1) := by decide +kernel
theorem dX2_takeBack_22 : decode cX2_takeBack 22 = .ok (.aload_n 0, 1) := by decide +kernel
theorem dX2_takeBack_23 : decode cX2_takeBack 23 = .ok (.getfield 24, 3) := by decide +kernel
theorem dX2_takeBack_26 : decode cX2_takeBack 26 = .ok (.ifCond .le 12, 3) := by decide +kernel
theorem dX2_takeBack_29 : decode cX2_takeBack 29 = .ok (.aload_n 0, 1) := by decide +kernel
theorem dX2_takeBack_30 : decode cX2_takeBack 30 = .ok (.getfield 24, 3) := by decide +kernel
theorem dX2_takeBack_33 : decode cX2_takeBack 33 = .ok (.iconst 1, 1) := by decide +kernel
theorem dX2_takeBack_34 : decode cX2_takeBack 34 = .ok (.isub, 1) := by decide +kernel
theorem dX2_takeBack_35 : decode cX2_takeBack 35 = .ok (.goto 5, 3) := by decide +kernel
theorem dX2_takeBack_38 : decode cX2_takeBack 38 = .ok (.bipush 13, 2) := by decide +kernel
theorem dX2_takeBack_40 : decode cX2_takeBack 40 = .ok (.putfield 24, 3) := by decide +kernel
theorem dX2_takeBack_43 : decode cX2_takeBack 43 = .ok (.aload_n 0, 1) := by decide +kernel
theorem dX2_takeBack_44 : decode cX2_takeBack 44 = .ok (.dup, 1) := by decide +kernel
theorem dX2_takeBack_45 : decode cX2_takeBack 45 = .ok (.getfield 20, 3) := by decide +kernel
theorem dX2_takeBack_48 : decode cX2_takeBack 48 = .ok (.iconst 1, 1) := by decide +kernel
theorem dX2_takeBack_49 : decode cX2_takeBack 49 = .ok (.isub, 1) := by decide +kernel
theorem dX2_takeBack_50 : decode cX2_takeBack 50 = .ok (.putfield 20, 3) := by decide +kernel
theorem dX2_takeBack_53 : decode cX2_takeBack 53 = .ok (.return_, 1) := by decide +kernel
theorem dX3_init_0 : decode cX3_init 0 = .ok (.aload_n 0, 1) := by decide +kernel
theorem dX3_init_1 : decode cX3_init 1 = .ok (.invokespecial 3, 3) := by decide +kernel
theorem dX3_init_4 : decode cX3_init 4 = .ok (.aload_n 0, 1) := by decide +kernel
theorem dX3_init_5 : decode cX3_init 5 = .ok (.iconst 1, 1) := by decide +kernel
theorem dX3_init_6 : decode cX3_init 6 = .ok (.putfield 9, 3) := by decide +kernel
theorem dX3_init_9 : decode cX3_init 9 = .ok (.aload_n 0, 1) := by decide +kernel
theorem dX3_init_10 : decode cX3_init 10 = .ok (.iconst 1, 1) := by decide +kernel
theorem dX3_init_11 : decode cX3_init 11 = .ok (.putfield 15, 3) := by decide +kernel
theorem dX3_init_14 : decode cX3_init 14 = .ok (.aload_n 0, 1) := by decide +kernel
theorem dX3_init_15 : decode cX3_init 15 = .ok (.iconst 3, 1) := by decide +kernel
theorem dX3_init_16 : decode cX3_init 16 = .ok (.putfield 18, 3) := by decide +kernel
theorem dX3_init_19 : decode cX3_init 19 = .ok (.aload_n 0, 1) := by decide +kernel
theorem dX3_init_20 : decode cX3_init 20 = .ok (.iconst 5, 1) := by decide +kernel
theorem dX3_init_21 : decode cX3_init 21 = .ok (.putfield 21, 3) := by decide +kernel
theorem dX3_init_24 : decode cX3_init 24 = .ok (.aload_n 0, 1) := by decide +kernel
theorem dX3_init_25 : decode cX3_init 25 = .ok (.iconst 5, 1) := by decide +kernel
theorem dX3_init_26 : decode cX3_init 26 = .ok (.newarray .int, 2) := by decide +kernel
theorem dX3_init_28 : decode cX3_init 28 = .ok (.putfield 24, 3) := by decide +kernel
theorem dX3_init_31 : decode cX3_init 31 = .ok (.aload_n 0, 1) := by decide +kernel
theorem dX3_init_32 : decode cX3_init 32 = .ok (.new 28, 3) := by decide +kernel
theorem dX3_init_35 : decode cX3_init 35 = .ok (.dup, 1) := by decide +kernel
theorem dX3_init_36 : decode cX3_init 36 = .ok (.invokespecial 30, 3) := by decide +kernel
theorem dX3_init_39 : decode cX3_init 39 = .ok (.putfield 31, 3) := by decide +kernel
theorem dX3_init_42 : decode cX3_init 42 = .ok (.return_, 1) := by decide +kernel
theorem dX3_take_0 : decode cX3_take 0 = .ok (.aload_n 0, 1) := by decide +kernel
theorem dX3_take_1 : decode cX3_take 1 = .ok (.aload_n 1, 1) := by decide +kernel
theorem dX3_take_2 : decode cX3_take 2 = .ok (.getfield 35, 3) := by decide +kernel
theorem dX3_take_5 : decode cX3_take 5 = .ok (.putfield 9, 3) := by decide +kernel
theorem dX3_take_8 : decode cX3_take 8 = .ok (.aload_n 0, 1) := by decide +kernel
theorem dX3_take_9 : decode cX3_take 9 = .ok (.aload_n 1, 1) := by decide +kernel
theorem dX3_take_10 : decode cX3_take 10 = .ok (.getfield 38, 3) := by decide +kernel
theorem dX3_take_13 : decode cX3_take 13 = .ok (.putfield 15, 3) := by decide +kernel
theorem dX3_take_16 : decode cX3_take 16 = .ok (.aload_n 0, 1) := by decide +kernel
theorem dX3_take_17 : decode cX3_take 17 = .ok (.aload_n 1, 1) := by decide +kernel
theorem dX3_take_18 : decode cX3_take 18 = .ok (.getfield 39, 3) := by decide +kernel
theorem dX3_take_21 : decode cX3_take 21 = .ok (.putfield 18, 3) := by decide +kernel
theorem dX3_take_24 : decode cX3_take 24 = .ok (.aload_n 0, 1) := by decide +kernel
theorem dX3_take_25 : decode cX3_take 25 = .ok (.aload_n 1, 1) := by decide +kernel
theorem dX3_take_26 : decode cX3_take 26 = .ok (.getfield 40, 3) := by decide +kernel
theorem dX3_take_29 : decode cX3_take 29 = .ok (.putfield 21, 3) := by decide +kernel
theorem dX3_take_32 : decode cX3_take 32 = .ok (.aload_n 1, 1) := by decide +kernel
theorem dX3_take_33 : decode cX3_take 33 = .ok (.getfield 41, 3) := by decide +kernel
theorem dX3_take_36 : decode cX3_take 36 = .ok (.iconst 0, 1) := by decide +kernel
theorem dX3_take_37 : decode cX3_take 37 = .ok (.aload_n 0, 1) := by decide +kernel
theorem dX3_take_38 : decode cX3_take 38 = .ok (.getfield 24, 3) := by decide +kernel
theorem dX3_take_41 : decode cX3_take 41 = .ok (.iconst 0, 1) := by decide +kernel
theorem dX3_take_42 : decode cX3_take 42 = .ok (.iconst 5, 1) := by decide +kernel
theorem dX3_take_43 : decode cX3_take 43 = .ok (.invokestatic 42, 3) := by decide +kernel
theorem dX3_take_46 : decode cX3_take 46 = .ok (.aload_n 0, 1) := by decide +kernel
theorem dX3_take_47 : decode cX3_take 47 = .ok (.getfield 31, 3) := by decide +kernel
theorem dX3_take_50 : decode cX3_take 50 = .ok (.aload_n 0, 1) := by decide +kernel
theorem dX3_take_51 : decode cX3_take 51 = .ok (.getfield 15, 3) := by decide +kernel
theorem dX3_take_54 : decode cX3_take 54 = .ok (.invokevirtual 48, 3) := by decide +kernel
theorem dX3_take_57 : decode cX3_take 57 = .ok (.iconst 0, 1) := by decide +kernel
theorem dX3_take_58 : decode cX3_take 58 = .ok (.istore_n 2, 1) := by decide +kernel
theorem dX3_take_59 : decode cX3_take 59 = .ok (.iload_n 2, 1) := by decide +kernel
theorem dX3_take_60 : decode cX3_take 60 = .ok (.aload_n 1, 1) := by decide +kernel
theorem dX3_take_61 : decode cX3_take 61 = .ok (.getfield 52, 3) := by decide +kernel
theorem dX3_take_64 : decode cX3_take 64 = .ok (.if_icmp .ge 23, 3) := by decide +kernel
theorem dX3_take_67 : decode cX3_take 67 = .ok (.aload_n 0, 1) := by decide +kernel
theorem dX3_take_68 : decode cX3_take 68 = .ok (.getfield 31, 3) := by decide +kernel
theorem dX3_take_71 : decode cX3_take 71 = .ok (.aload_n 1, 1) := by decide +kernel
theorem dX3_take_72 : decode cX3_take 72 = .ok (.getfield 55, 3) := by decide +kernel
theorem dX3_take_75 : decode cX3_take 75 = .ok (.iload_n 2, 1) := by decide +kernel
theorem dX3_take_76 : decode cX3_take 76 = .ok (.iconst 5, 1) := by decide +kernel
theorem dX3_take_77 : decode cX3_take 77 = .ok (.imul, 1) := by decide +kernel
theorem dX3_take_78 : decode cX3_take 78 = .ok (.invokevirtual 57, 3) := by decide +kernel
theorem dX3_take_81 : decode cX3_take 81 = .ok (.iinc 2 1, 3) := by decide +kernel
theorem dX3_take_84 : decode cX3_take 84 = .ok (.goto (-25), 3) := by decide +kernel
theorem dX3_take_87 : decode cX3_take 87 = .ok (.return_, 1) := by decide +kernel
theorem dX3_has_0 : decode cX3_has 0 = .ok (.iload_n 1, 1) := by decide +kernel
theorem dX3_has_1 : decode cX3_has 1 = .ok (.ifCond .lt 27, 3) := by decide +kernel
theorem dX3_has_4 : decode cX3_has 4 = .ok (.iload_n 1, 1) := by decide +kernel
theorem dX3_has_5 : decode cX3_has 5 = .ok (.aload_n 0, 1) := by decide +kernel
theorem dX3_has_6 : decode cX3_has 6 = .ok (.getfield 9, 3) := by decide +kernel
theorem dX3_has_9 : decode cX3_has 9 = .ok (.if_icmp .ge 19, 3) := by decide +kernel
theorem dX3_has_12 : decode cX3_has 12 = .ok (.iload_n 2, 1) := by decide +kernel
theorem dX3_has_13 : decode cX3_has 13 = .ok (.ifCond .lt 15, 3) := by decide +kernel
theorem dX3_has_16 : decode cX3_has 16 = .ok (.iload_n 2, 1) := by decide +kernel
theorem dX3_has_17 : decode cX3_has 17 = .ok (.aload_n 0, 1) := by decide +kernel
theorem dX3_has_18 : decode cX3_has 18 = .ok (.getfield 15, 3) := by decide +kernel
theorem dX3_has_21 : decode cX3_has 21 = .ok (.if_icmp .ge 7, 3) := by decide +kernel
theorem dX3_has_24 : decode cX3_has 24 = .ok (.iconst 1, 1) := by decide +kernel
theorem dX3_has_25 : decode cX3_has 25 = .ok (.goto 4, 3) := by decide +kernel
theorem dX3_has_28 : decode cX3_has 28 = .ok (.iconst 0, 1) := by decide +kernel
theorem dX3_has_29 : decode cX3_has 29 = .ok (.ireturn, 1) := by decide +kernel
theorem dX4_init_0 : decode cX4_init 0 = .ok (.aload_n 0, 1) := by decide +kernel
theorem dX4_init_1 : decode cX4_init 1 = .ok (.invokespecial 3, 3) := by decide +kernel
theorem dX4_init_4 : decode cX4_init 4 = .ok (.aload_n 0, 1) := by decide +kernel
theorem dX4_init_5 : decode cX4_init 5 = .ok (.bipush 50, 2) := by decide +kernel
theorem dX4_init_7 : decode cX4_init 7 = .ok (.newarray .int, 2) := by decide +kernel
theorem dX4_init_9 : decode cX4_init 9 = .ok (.putfield 11, 3) := by decide +kernel
theorem dX4_init_12 : decode cX4_init 12 = .ok (.aload_n 0, 1) := by decide +kernel
theorem dX4_init_13 : decode cX4_init 13 = .ok (.sipush 4096, 3) := by decide +kernel
theorem dX4_init_16 : decode cX4_init 16 = .ok (.newarray .int, 2) := by decide +kernel
theorem dX4_init_18 : decode cX4_init 18 = .ok (.putfield 15, 3) := by decide +kernel
theorem dX4_init_21 : decode cX4_init 21 = .ok (.aload_n 0, 1) := by decide +kernel
theorem dX4_init_22 : decode cX4_init 22 = .ok (.iconst 4, 1) := by decide +kernel
theorem dX4_init_23 : decode cX4_init 23 = .ok (.putfield 18, 3) := by decide +kernel
theorem dX4_init_26 : decode cX4_init 26 = .ok (.return_, 1) := by decide +kernel
theorem dX4_clear_0 : decode cX4_clear 0 = .ok (.aload_n 0, 1) := by decide +kernel
theorem dX4_clear_1 : decode cX4_clear 1 = .ok (.iconst 0, 1) := by decide +kernel
theorem dX4_clear_2 : decode cX4_clear 2 = .ok (.putfield 22, 3) := by decide +kernel
theorem dX4_clear_5 : decode cX4_clear 5 = .ok (.aload_n 0, 1) := by decide +kernel
theorem dX4_clear_6 : decode cX4_clear 6 = .ok (.iconst 1, 1) := by decide +kernel
theorem dX4_clear_7 : decode cX4_clear 7 = .ok (.iconst 2, 1) := by decide +kernel
theorem dX4_clear_8 : decode cX4_clear 8 = .ok (.iload_n 1, 1) := by decide +kernel
theorem dX4_clear_9 : decode cX4_clear 9 = .ok (.imul, 1) := by decide +kernel
theorem dX4_clear_10 : decode cX4_clear 10 = .ok (.ishl, 1) := by decide +kernel
theorem dX4_clear_11 : decode cX4_clear 11 = .ok (.sipush 4096, 3) := by decide +kernel
theorem dX4_clear_14 : decode cX4_clear 14 = .ok (.invokestatic 25, 3) := by decide +kernel
theorem dX4_clear_17 : decode cX4_clear 17 = .ok (.putfield 18, 3) := by decide +kernel
theorem dX4_clear_20 : decode cX4_clear 20 = .ok (.aload_n 0, 1) := by decide +kernel
theorem dX4_clear_21 : decode cX4_clear 21 = .ok (.getfield 15, 3) := by decide +kernel
theorem dX4_clear_24 : decode cX4_clear 24 = .ok (.iconst 0, 1) := by decide +kernel
theorem dX4_clear_25 : decode cX4_clear 25 = .ok (.invokestatic 31, 3) := by decide +kernel
theorem dX4_clear_28 : decode cX4_clear 28 = .ok (.return_, 1) := by decide +kernel
theorem dX4_add_0 : decode cX4_add 0 = .ok (.aload_n 0, 1) := by decide +kernel
theorem dX4_add_1 : decode cX4_add 1 = .ok (.getfield 22, 3) := by decide +kernel
theorem dX4_add_4 : decode cX4_add 4 = .ok (.bipush 10, 2) := by decide +kernel
theorem dX4_add_6 : decode cX4_add 6 = .ok (.if_icmp .ge 15, 3) := by decide +kernel
theorem dX4_add_9 : decode cX4_add 9 = .ok (.iload_n 2, 1) := by decide +kernel
theorem dX4_add_10 : decode cX4_add 10 = .ok (.ifCond .lt 11, 3) := by decide +kernel
theorem dX4_add_13 : decode cX4_add 13 = .ok (.iload_n 2, 1) := by decide +kernel
theorem dX4_add_14 : decode cX4_add 14 = .ok (.iconst 5, 1) := by decide +kernel
theorem dX4_add_15 : decode cX4_add 15 = .ok (.iadd, 1) := by decide +kernel
theorem dX4_add_16 : decode cX4_add 16 = .ok (.aload_n 1, 1) := by decide +kernel
theorem dX4_add_17 : decode cX4_add 17 = .ok (.arraylength, 1) := by decide +kernel
theorem dX4_add_18 : decode cX4_add 18 = .ok (.if_icmp .le 4, 3) := by decide +kernel
theorem dX4_add_21 : decode cX4_add 21 = .ok (.return_, 1) := by decide +kernel
theorem dX4_add_22 : decode cX4_add 22 = .ok (.aload_n 1, 1) := by decide +kernel
theorem dX4_add_23 : decode cX4_add 23 = .ok (.iload_n 2, 1) := by decide +kernel
theorem dX4_add_24 : decode cX4_add 24 = .ok (.aload_n 0, 1) := by decide +kernel
theorem dX4_add_25 : decode cX4_add 25 = .ok (.getfield 11, 3) := by decide +kernel
theorem dX4_add_28 : decode cX4_add 28 = .ok (.aload_n 0, 1) := by decide +kernel
theorem dX4_add_29 : decode cX4_add 29 = .ok (.getfield 22, 3) := by decide +kernel
theorem dX4_add_32 : decode cX4_add 32 = .ok (.iconst 5, 1) := by decide +kernel
theorem dX4_add_33 : decode cX4_add 33 = .ok (.imul, 1) := by decide +kernel
theorem dX4_add_34 : decode cX4_add 34 = .ok (.iconst 5, 1) := by decide +kernel
theorem dX4_add_35 : decode cX4_add 35 = .ok (.invokestatic 37, 3) := by decide +kernel
theorem dX4_add_38 : decode cX4_add 38 = .ok (.aload_n 0, 1) := by decide +kernel
theorem dX4_add_39 : decode cX4_add 39 = .ok (.getfield 22, 3) := by decide +kernel
theorem dX4_add_42 : decode cX4_add 42 = .ok (.istore_n 3, 1) := by decide +kernel
theorem dX4_add_43 : decode cX4_add 43 = .ok (.aload_n 0, 1) := by decide +kernel
theorem dX4_add_44 : decode cX4_add 44 = .ok (.dup, 1) := by decide +kernel
theorem dX4_add_45 : decode cX4_add 45 = .ok (.getfield 22, 3) := by decide +kernel
theorem dX4_add_48 : decode cX4_add 48 = .ok (.iconst 1, 1) := by decide +kernel
theorem dX4_add_49 : decode cX4_add 49 = .ok (.iadd, 1) := by decide +kernel
theorem dX4_add_50 : decode cX4_add 50 = .ok (.putfield 22, 3) := by decide +kernel
theorem dX4_add_53 : decode cX4_add 53 = .ok (.iconst 0, 1) := by decide +kernel
theorem dX4_add_54 : decode cX4_add 54 = .ok (.istore 4, 2) := by decide +kernel
theorem dX4_add_56 : decode cX4_add 56 = .ok (.iload 4, 2) := by decide +kernel
theorem dX4_add_58 : decode cX4_add 58 = .ok (.aload_n 0, 1) := by decide +kernel
theorem dX4_add_59 : decode cX4_add 59 = .ok (.getfield 18, 3) := by decide +kernel
theorem dX4_add_62 : decode cX4_add 62 = .ok (.if_icmp .ge 32, 3) := by decide +kernel
theorem dX4_add_65 : decode cX4_add 65 = .ok (.aload_n 0, 1) := by decide +kernel
theorem dX4_add_66 : decode cX4_add 66 = .ok (.iload_n 3, 1) := by decide +kernel
theorem dX4_add_67 : decode cX4_add 67 = .ok (.iload 4, 2) := by decide +kernel
theorem dX4_add_69 : decode cX4_add 69 = .ok (.invokevirtual 43, 3) := by decide +kernel
theorem dX4_add_72 : decode cX4_add 72 = .ok (.ifCond .eq 16, 3) := by decide +kernel
theorem dX4_add_75 : decode cX4_add 75 = .ok (.aload_n 0, 1) := by decide +kernel
theorem dX4_add_76 : decode cX4_add 76 = .ok (.getfield 15, 3) := by decide +kernel
theorem dX4_add_79 : decode cX4_add 79 = .ok (.iload 4, 2) := by decide +kernel
theorem dX4_add_81 : decode cX4_add 81 = .ok (.dup2, 1) := by decide +kernel
theorem dX4_add_82 : decode cX4_add 82 = .ok (.iaload, 1) := by decide +kernel
theorem dX4_add_83 : decode cX4_add 83 = .ok (.iconst 1, 1) := by decide +kernel
theorem dX4_add_84 : decode cX4_add 84 = .ok (.iload_n 3, 1) := by decide +kernel
theorem dX4_add_85 : decode cX4_add 85 = .ok (.ishl, 1) := by decide +kernel
theorem dX4_add_86 : decode cX4_add 86 = .ok (.ior, 1) := by decide +kernel
theorem dX4_add_87 : decode cX4_add 87 = .ok (.iastore, 1) := by decide +kernel
theorem dX4_add_88 : decode cX4_add 88 = .ok (.iinc 4 1, 3) := by decide +kernel
theorem dX4_add_91 : decode cX4_add 91 = .ok (.goto (-35), 3) := by decide +kernel
theorem dX4_add_94 : decode cX4_add 94 = .ok (.return_, 1) := by decide +kernel
theorem dX4_part_0 : decode cX4_part 0 = .ok (.aload_n 0, 1) := by decide +kernel
theorem dX4_part_1 : decode cX4_part 1 = .ok (.getfield 11, 3) := by decide +kernel
theorem dX4_part_4 : decode cX4_part 4 = .ok (.iload_n 1, 1) := by decide +kernel
theorem dX4_part_5 : decode cX4_part 5 = .ok (.iconst 5, 1) := by decide +kernel
theorem dX4_part_6 : decode cX4_part 6 = .ok (.imul, 1) := by decide +kernel
theorem dX4_part_7 : decode cX4_part 7 = .ok (.iload_n 2, 1) := by decide +kernel
theorem dX4_part_8 : decode cX4_part 8 = .ok (.iadd, 1) := by decide +kernel
theorem dX4_part_9 : decode cX4_part 9 = .ok (.iaload, 1) := by decide +kernel
theorem dX4_part_10 : decode cX4_part 10 = .ok (.ireturn, 1) := by decide +kernel
theorem dX4_isBroken_0 : decode cX4_isBroken 0 = .ok (.iload_n 1, 1) := by decide +kernel
theorem dX4_isBroken_1 : decode cX4_isBroken 1 = .ok (.iconst 5, 1) := by decide +kernel
theorem dX4_isBroken_2 : decode cX4_isBroken 2 = .ok (.imul, 1) := by decide +kernel
theorem dX4_isBroken_3 : decode cX4_isBroken 3 = .ok (.istore_n 3, 1) := by decide +kernel
theorem dX4_isBroken_4 : decode cX4_isBroken 4 = .ok (.iload_n 2, 1) := by decide +kernel
theorem dX4_isBroken_5 : decode cX4_isBroken 5 = .ok (.aload_n 0, 1) := by decide +kernel
theorem dX4_isBroken_6 : decode cX4_isBroken 6 = .ok (.getfield 11, 3) := by decide +kernel
theorem dX4_isBroken_9 : decode cX4_isBroken 9 = .ok (.iload_n 3, 1) := by decide +kernel
theorem dX4_isBroken_10 : decode cX4_isBroken 10 = .ok (.iconst 1, 1) := by decide +kernel
theorem dX4_isBroken_11 : decode cX4_isBroken 11 = .ok (.iadd, 1) := by decide +kernel
theorem dX4_isBroken_12 : decode cX4_isBroken 12 = .ok (.iaload, 1) := by decide +kernel
theorem dX4_isBroken_13 : decode cX4_isBroken 13 = .ok (.invokestatic 47, 3) := by decide +kernel
theorem dX4_isBroken_16 : decode cX4_isBroken 16 = .ok (.aload_n 0, 1) := by decide +kernel
theorem dX4_isBroken_17 : decode cX4_isBroken 17 = .ok (.getfield 11, 3) := by decide +kernel
theorem dX4_isBroken_20 : decode cX4_isBroken 20 = .ok (.iload_n 3, 1) := by decide +kernel
theorem dX4_isBroken_21 : decode cX4_isBroken 21 = .ok (.iconst 2, 1) := by decide +kernel
theorem dX4_isBroken_22 : decode cX4_isBroken 22 = .ok (.iadd, 1) := by decide +kernel
theorem dX4_isBroken_23 : decode cX4_isBroken 23 = .ok (.iaload, 1) := by decide +kernel
theorem dX4_isBroken_24 : decode cX4_isBroken 24 = .ok (.if_icmp .ge 5, 3) := by decide +kernel
theorem dX4_isBroken_27 : decode cX4_isBroken 27 = .ok (.iconst 0, 1) := by decide +kernel
theorem dX4_isBroken_28 : decode cX4_isBroken 28 = .ok (.ireturn, 1) := by decide +kernel
theorem dX4_isBroken_29 : decode cX4_isBroken 29 = .ok (.iload_n 2, 1) := by decide +kernel
theorem dX4_isBroken_30 : decode cX4_isBroken 30 = .ok (.aload_n 0, 1) := by decide +kernel
theorem dX4_isBroken_31 : decode cX4_isBroken 31 = .ok (.getfield 11, 3) := by decide +kernel
theorem dX4_isBroken_34 : decode cX4_isBroken 34 = .ok (.iload_n 3, 1) := by decide +kernel
theorem dX4_isBroken_35 : decode cX4_isBroken 35 = .ok (.iconst 3, 1) := by decide +kernel
theorem dX4_isBroken_36 : decode cX4_isBroken 36 = .ok (.iadd, 1) := by decide +kernel
theorem dX4_isBroken_37 : decode cX4_isBroken 37 = .ok (.iaload, 1) := by decide +kernel
theorem dX4_isBroken_38 : decode cX4_isBroken 38 = .ok (.invokestatic 47, 3) := by decide +kernel
theorem dX4_isBroken_41 : decode cX4_isBroken 41 = .ok (.aload_n 0, 1) := by decide +kernel
theorem dX4_isBroken_42 : decode cX4_isBroken 42 = .ok (.getfield 11, 3) := by decide +kernel
theorem dX4_isBroken_45 : decode cX4_isBroken 45 = .ok (.iload_n 3, 1) := by decide +kernel
theorem dX4_isBroken_46 : decode cX4_isBroken 46 = .ok (.iconst 4, 1) := by decide +kernel
theorem dX4_isBroken_47 : decode cX4_isBroken 47 = .ok (.iadd, 1) := by decide +kernel
theorem dX4_isBroken_48 : decode cX4_isBroken 48 = .ok (.iaload, 1) := by decide +kernel
theorem dX4_isBroken_49 : decode cX4_isBroken 49 = .ok (.if_icmp .lt 7, 3) := by decide +kernel
theorem dX4_isBroken_52 : decode cX4_isBroken 52 = .ok (.iconst 1, 1) := by decide +kernel
theorem dX4_isBroken_53 : decode cX4_isBroken 53 = .ok (.goto 4, 3) := by decide +kernel
theorem dX4_isBroken_56 : decode cX4_isBroken 56 = .ok (.iconst 0, 1) := by decide +kernel
theorem dX4_isBroken_57 : decode cX4_isBroken 57 = .ok (.istore 4, 2) := by decide +kernel
theorem dX4_isBroken_59 : decode cX4_isBroken 59 = .ok (.iload 4, 2) := by decide +kernel
theorem dX4_isBroken_61 : decode cX4_isBroken 61 = .ok (.aload_n 0, 1) := by decide +kernel
theorem dX4_isBroken_62 : decode cX4_isBroken 62 = .ok (.getfield 11, 3) := by decide +kernel
theorem dX4_isBroken_65 : decode cX4_isBroken 65 = .ok (.iload_n 3, 1) := by decide +kernel
theorem dX4_isBroken_66 : decode cX4_isBroken 66 = .ok (.iaload, 1) := by decide +kernel
theorem dX4_isBroken_67 : decode cX4_isBroken 67 = .ok (.iconst 1, 1) := by decide +kernel
theorem dX4_isBroken_68 : decode cX4_isBroken 68 = .ok (.if_icmp .ne 7, 3) := by decide +kernel
theorem dX4_isBroken_71 : decode cX4_isBroken 71 = .ok (.iconst 1, 1) := by decide +kernel
theorem dX4_isBroken_72 : decode cX4_isBroken 72 = .ok (.goto 4, 3) := by decide +kernel
theorem dX4_isBroken_75 : decode cX4_isBroken 75 = .ok (.iconst 0, 1) := by decide +kernel
theorem dX4_isBroken_76 : decode cX4_isBroken 76 = .ok (.if_icmp .ne 7, 3) := by decide +kernel
theorem dX4_isBroken_79 : decode cX4_isBroken 79 = .ok (.iconst 1, 1) := by decide +kernel
theorem dX4_isBroken_80 : decode cX4_isBroken 80 = .ok (.goto 4, 3) := by decide +kernel
theorem dX4_isBroken_83 : decode cX4_isBroken 83 = .ok (.iconst 0, 1) := by decide +kernel
theorem dX4_isBroken_84 : decode cX4_isBroken 84 = .ok (.ireturn, 1) := by decide +kernel
theorem dX4_brokenOn_0 : decode cX4_brokenOn 0 = .ok (.aload_n 0, 1) := by decide +kernel
theorem dX4_brokenOn_1 : decode cX4_brokenOn 1 = .ok (.getfield 15, 3) := by decide +kernel
theorem dX4_brokenOn_4 : decode cX4_brokenOn 4 = .ok (.iload_n 1, 1) := by decide +kernel
theorem dX4_brokenOn_5 : decode cX4_brokenOn 5 = .ok (.sipush 4095, 3) := by decide +kernel
theorem dX4_brokenOn_8 : decode cX4_brokenOn 8 = .ok (.iand, 1) := by decide +kernel
theorem dX4_brokenOn_9 : decode cX4_brokenOn 9 = .ok (.iaload, 1) := by decide +kernel
theorem dX4_brokenOn_10 : decode cX4_brokenOn 10 = .ok (.ireturn, 1) := by decide +kernel
theorem dX4_newlyBroken_0 : decode cX4_newlyBroken 0 = .ok (.aload_n 0, 1) := by decide +kernel
theorem dX4_newlyBroken_1 : decode cX4_newlyBroken 1 = .ok (.getfield 15, 3) := by decide +kernel
theorem dX4_newlyBroken_4 : decode cX4_newlyBroken 4 = .ok (.iload_n 2, 1) := by decide +kernel
theorem dX4_newlyBroken_5 : decode cX4_newlyBroken 5 = .ok (.sipush 4095, 3) := by decide +kernel
theorem dX4_newlyBroken_8 : decode cX4_newlyBroken 8 = .ok (.iand, 1) := by decide +kernel
theorem dX4_newlyBroken_9 : decode cX4_newlyBroken 9 = .ok (.iaload, 1) := by decide +kernel
theorem dX4_newlyBroken_10 : decode cX4_newlyBroken 10 = .ok (.aload_n 0, 1) := by decide +kernel
theorem dX4_newlyBroken_11 : decode cX4_newlyBroken 11 = .ok (.getfield 15, 3) := by decide +kernel
theorem dX4_newlyBroken_14 : decode cX4_newlyBroken 14 = .ok (.iload_n 1, 1) := by decide +kernel
theorem dX4_newlyBroken_15 : decode cX4_newlyBroken 15 = .ok (.sipush 4095, 3) := by decide +kernel
theorem dX4_newlyBroken_18 : decode cX4_newlyBroken 18 = .ok (.iand, 1) := by decide +kernel
theorem dX4_newlyBroken_19 : decode cX4_newlyBroken 19 = .ok (.iaload, 1) := by decide +kernel
theorem dX4_newlyBroken_20 : decode cX4_newlyBroken 20 = .ok (.iconst (-1), 1) := by decide +kernel
theorem dX4_newlyBroken_21 : decode cX4_newlyBroken 21 = .ok (.ixor, 1) := by decide +kernel
theorem dX4_newlyBroken_22 : decode cX4_newlyBroken 22 = .ok (.iand, 1) := by decide +kernel
theorem dX4_newlyBroken_23 : decode cX4_newlyBroken 23 = .ok (.ireturn, 1) := by decide +kernel
theorem dX4_leastWithNeeds_0 : decode cX4_leastWithNeeds 0 = .ok (.iload_n 1, 1) := by decide +kernel
theorem dX4_leastWithNeeds_1 : decode cX4_leastWithNeeds 1 = .ok (.istore_n 2, 1) := by decide +kernel
theorem dX4_leastWithNeeds_2 : decode cX4_leastWithNeeds 2 = .ok (.iconst 0, 1) := by decide +kernel
theorem dX4_leastWithNeeds_3 : decode cX4_leastWithNeeds 3 = .ok (.istore_n 3, 1) := by decide +kernel
theorem dX4_leastWithNeeds_4 : decode cX4_leastWithNeeds 4 = .ok (.iload_n 3, 1) := by decide +kernel
theorem dX4_leastWithNeeds_5 : decode cX4_leastWithNeeds 5 = .ok (.bipush 18, 2) := by decide +kernel
theorem dX4_leastWithNeeds_7 : decode cX4_leastWithNeeds 7 = .ok (.if_icmp .gt 27, 3) := by decide +kernel
theorem dX4_leastWithNeeds_10 : decode cX4_leastWithNeeds 10 = .ok (.aload_n 0, 1) := by decide +kernel
theorem dX4_leastWithNeeds_11 : decode cX4_leastWithNeeds 11 = .ok (.iload_n 2, 1) := by decide +kernel
theorem dX4_leastWithNeeds_12 : decode cX4_leastWithNeeds 12 = .ok (.invokevirtual 52, 3) := by decide +kernel
theorem dX4_leastWithNeeds_15 : decode cX4_leastWithNeeds 15 = .ok (.istore 4, 2) := by decide +kernel
theorem dX4_leastWithNeeds_17 : decode cX4_leastWithNeeds 17 = .ok (.iload 4, 2) := by decide +kernel
theorem dX4_leastWithNeeds_19 : decode cX4_leastWithNeeds 19 = .ok (.iload_n 2, 1) := by decide +kernel
theorem dX4_leastWithNeeds_20 : decode cX4_leastWithNeeds 20 = .ok (.if_icmp .ne 5, 3) := by decide +kernel
theorem dX4_leastWithNeeds_23 : decode cX4_leastWithNeeds 23 = .ok (.iload_n 2, 1) := by decide +kernel
theorem dX4_leastWithNeeds_24 : decode cX4_leastWithNeeds 24 = .ok (.ireturn, 1) := by decide +kernel
theorem dX4_leastWithNeeds_25 : decode cX4_leastWithNeeds 25 = .ok (.iload 4, 2) := by decide +kernel
theorem dX4_leastWithNeeds_27 : decode cX4_leastWithNeeds 27 = .ok (.istore_n 2, 1) := by decide +kernel
theorem dX4_leastWithNeeds_28 : decode cX4_leastWithNeeds 28 = .ok (.iinc 3 1, 3) := by decide +kernel
theorem dX4_leastWithNeeds_31 : decode cX4_leastWithNeeds 31 = .ok (.goto (-27), 3) := by decide +kernel
theorem dX4_leastWithNeeds_34 : decode cX4_leastWithNeeds 34 = .ok (.iload_n 2, 1) := by decide +kernel
theorem dX4_leastWithNeeds_35 : decode cX4_leastWithNeeds 35 = .ok (.ireturn, 1) := by decide +kernel
theorem dX4_raisedByNeeds_0 : decode cX4_raisedByNeeds 0 = .ok (.iload_n 1, 1) := by decide +kernel
theorem dX4_raisedByNeeds_1 : decode cX4_raisedByNeeds 1 = .ok (.istore_n 2, 1) := by decide +kernel
theorem dX4_raisedByNeeds_2 : decode cX4_raisedByNeeds 2 = .ok (.iconst 0, 1) := by decide +kernel
theorem dX4_raisedByNeeds_3 : decode cX4_raisedByNeeds 3 = .ok (.istore_n 3, 1) := by decide +kernel
theorem dX4_raisedByNeeds_4 : decode cX4_raisedByNeeds 4 = .ok (.iload_n 3, 1) := by decide +kernel
theorem dX4_raisedByNeeds_5 : decode cX4_raisedByNeeds 5 = .ok (.aload_n 0, 1) := by decide +kernel
theorem dX4_raisedByNeeds_6 : decode cX4_raisedByNeeds 6 = .ok (.getfield 22, 3) := by decide +kernel
theorem dX4_raisedByNeeds_9 : decode cX4_raisedByNeeds 9 = .ok (.if_icmp .ge 44, 3) := by decide +kernel
theorem dX4_raisedByNeeds_12 : decode cX4_raisedByNeeds 12 = .ok (.aload_n 0, 1) := by decide +kernel
theorem dX4_raisedByNeeds_13 : decode cX4_raisedByNeeds 13 = .ok (.iload_n 3, 1) := by decide +kernel
theorem dX4_raisedByNeeds_14 : decode cX4_raisedByNeeds 14 = .ok (.iconst 0, 1) := by decide +kernel
theorem dX4_raisedByNeeds_15 : decode cX4_raisedByNeeds 15 = .ok (.invokevirtual 56, 3) := by decide +kernel
theorem dX4_raisedByNeeds_18 : decode cX4_raisedByNeeds 18 = .ok (.ifCond .ne 29, 3) := by decide +kernel
theorem dX4_raisedByNeeds_21 : decode cX4_raisedByNeeds 21 = .ok (.aload_n 0, 1) := by decide +kernel
theorem dX4_raisedByNeeds_22 : decode cX4_raisedByNeeds 22 = .ok (.iload_n 3, 1) := by decide +kernel
theorem dX4_raisedByNeeds_23 : decode cX4_raisedByNeeds 23 = .ok (.iload_n 2, 1) := by decide +kernel
theorem dX4_raisedByNeeds_24 : decode cX4_raisedByNeeds 24 = .ok (.invokevirtual 43, 3) := by decide +kernel
theorem dX4_raisedByNeeds_27 : decode cX4_raisedByNeeds 27 = .ok (.ifCond .eq 20, 3) := by decide +kernel
theorem dX4_raisedByNeeds_30 : decode cX4_raisedByNeeds 30 = .ok (.iload_n 2, 1) := by decide +kernel
theorem dX4_raisedByNeeds_31 : decode cX4_raisedByNeeds 31 = .ok (.aload_n 0, 1) := by decide +kernel
theorem dX4_raisedByNeeds_32 : decode cX4_raisedByNeeds 32 = .ok (.iload_n 3, 1) := by decide +kernel
theorem dX4_raisedByNeeds_33 : decode cX4_raisedByNeeds 33 = .ok (.iconst 3, 1) := by decide +kernel
theorem dX4_raisedByNeeds_34 : decode cX4_raisedByNeeds 34 = .ok (.invokevirtual 56, 3) := by decide +kernel
theorem dX4_raisedByNeeds_37 : decode cX4_raisedByNeeds 37 = .ok (.aload_n 0, 1) := by decide +kernel
theorem dX4_raisedByNeeds_38 : decode cX4_raisedByNeeds 38 = .ok (.iload_n 3, 1) := by decide +kernel
theorem dX4_raisedByNeeds_39 : decode cX4_raisedByNeeds 39 = .ok (.iconst 4, 1) := by decide +kernel
theorem dX4_raisedByNeeds_40 : decode cX4_raisedByNeeds 40 = .ok (.invokevirtual 56, 3) := by decide +kernel
theorem dX4_raisedByNeeds_43 : decode cX4_raisedByNeeds 43 = .ok (.invokestatic 59, 3) := by decide +kernel
theorem dX4_raisedByNeeds_46 : decode cX4_raisedByNeeds 46 = .ok (.istore_n 2, 1) := by decide +kernel
theorem dX4_raisedByNeeds_47 : decode cX4_raisedByNeeds 47 = .ok (.iinc 3 1, 3) := by decide +kernel
theorem dX4_raisedByNeeds_50 : decode cX4_raisedByNeeds 50 = .ok (.goto (-46), 3) := by decide +kernel
theorem dX4_raisedByNeeds_53 : decode cX4_raisedByNeeds 53 = .ok (.iload_n 2, 1) := by decide +kernel
theorem dX4_raisedByNeeds_54 : decode cX4_raisedByNeeds 54 = .ok (.ireturn, 1) := by decide +kernel
theorem dX4_allow_0 : decode cX4_allow 0 = .ok (.iconst 0, 1) := by decide +kernel
theorem dX4_allow_1 : decode cX4_allow 1 = .ok (.istore_n 3, 1) := by decide +kernel
theorem dX4_allow_2 : decode cX4_allow 2 = .ok (.iload_n 3, 1) := by decide +kernel
theorem dX4_allow_3 : decode cX4_allow 3 = .ok (.aload_n 0, 1) := by decide +kernel
theorem dX4_allow_4 : decode cX4_allow 4 = .ok (.getfield 18, 3) := by decide +kernel
theorem dX4_allow_7 : decode cX4_allow 7 = .ok (.if_icmp .ge 29, 3) := by decide +kernel
theorem dX4_allow_10 : decode cX4_allow 10 = .ok (.aload_n 0, 1) := by decide +kernel
theorem dX4_allow_11 : decode cX4_allow 11 = .ok (.getfield 15, 3) := by decide +kernel
theorem dX4_allow_14 : decode cX4_allow 14 = .ok (.iload_n 3, 1) := by decide +kernel
theorem dX4_allow_15 : decode cX4_allow 15 = .ok (.iaload, 1) := by decide +kernel
theorem dX4_allow_16 : decode cX4_allow 16 = .ok (.ifCond .ne 14, 3) := by decide +kernel
theorem dX4_allow_19 : decode cX4_allow 19 = .ok (.iload_n 3, 1) := by decide +kernel
theorem dX4_allow_20 : decode cX4_allow 20 = .ok (.iload_n 1, 1) := by decide +kernel
theorem dX4_allow_21 : decode cX4_allow 21 = .ok (.invokestatic 47, 3) := by decide +kernel
theorem dX4_allow_24 : decode cX4_allow 24 = .ok (.iload_n 2, 1) := by decide +kernel
theorem dX4_allow_25 : decode cX4_allow 25 = .ok (.if_icmp .lt 5, 3) := by decide +kernel
theorem dX4_allow_28 : decode cX4_allow 28 = .ok (.iconst 1, 1) := by decide +kernel
theorem dX4_allow_29 : decode cX4_allow 29 = .ok (.ireturn, 1) := by decide +kernel
theorem dX4_allow_30 : decode cX4_allow 30 = .ok (.iinc 3 1, 3) := by decide +kernel
theorem dX4_allow_33 : decode cX4_allow 33 = .ok (.goto (-31), 3) := by decide +kernel
theorem dX4_allow_36 : decode cX4_allow 36 = .ok (.iconst 0, 1) := by decide +kernel
theorem dX4_allow_37 : decode cX4_allow 37 = .ok (.ireturn, 1) := by decide +kernel
theorem dX5_init_0 : decode cX5_init 0 = .ok (.aload_n 0, 1) := by decide +kernel
theorem dX5_init_1 : decode cX5_init 1 = .ok (.invokespecial 3, 3) := by decide +kernel
theorem dX5_init_4 : decode cX5_init 4 = .ok (.aload_n 0, 1) := by decide +kernel
theorem dX5_init_5 : decode cX5_init 5 = .ok (.iconst 5, 1) := by decide +kernel
theorem dX5_init_6 : decode cX5_init 6 = .ok (.newarray .int, 2) := by decide +kernel
theorem dX5_init_8 : decode cX5_init 8 = .ok (.putfield 9, 3) := by decide +kernel
theorem dX5_init_11 : decode cX5_init 11 = .ok (.aload_n 0, 1) := by decide +kernel
theorem dX5_init_12 : decode cX5_init 12 = .ok (.iconst 5, 1) := by decide +kernel
theorem dX5_init_13 : decode cX5_init 13 = .ok (.newarray .int, 2) := by decide +kernel
theorem dX5_init_15 : decode cX5_init 15 = .ok (.putfield 15, 3) := by decide +kernel
theorem dX5_init_18 : decode cX5_init 18 = .ok (.aload_n 0, 1) := by decide +kernel
theorem dX5_init_19 : decode cX5_init 19 = .ok (.iconst 5, 1) := by decide +kernel
theorem dX5_init_20 : decode cX5_init 20 = .ok (.newarray .int, 2) := by decide +kernel
theorem dX5_init_22 : decode cX5_init 22 = .ok (.putfield 18, 3) := by decide +kernel
theorem dX5_init_25 : decode cX5_init 25 = .ok (.aload_n 0, 1) := by decide +kernel
theorem dX5_init_26 : decode cX5_init 26 = .ok (.iconst 5, 1) := by decide +kernel
theorem dX5_init_27 : decode cX5_init 27 = .ok (.newarray .int, 2) := by decide +kernel
theorem dX5_init_29 : decode cX5_init 29 = .ok (.putfield 21, 3) := by decide +kernel
theorem dX5_init_32 : decode cX5_init 32 = .ok (.aload_n 0, 1) := by decide +kernel
theorem dX5_init_33 : decode cX5_init 33 = .ok (.iconst 5, 1) := by decide +kernel
theorem dX5_init_34 : decode cX5_init 34 = .ok (.newarray .int, 2) := by decide +kernel
theorem dX5_init_36 : decode cX5_init 36 = .ok (.putfield 24, 3) := by decide +kernel
theorem dX5_init_39 : decode cX5_init 39 = .ok (.aload_n 0, 1) := by decide +kernel
theorem dX5_init_40 : decode cX5_init 40 = .ok (.bipush 6, 2) := by decide +kernel
theorem dX5_init_42 : decode cX5_init 42 = .ok (.newarray .int, 2) := by decide +kernel
theorem dX5_init_44 : decode cX5_init 44 = .ok (.putfield 27, 3) := by decide +kernel
theorem dX5_init_47 : decode cX5_init 47 = .ok (.aload_n 0, 1) := by decide +kernel
theorem dX5_init_48 : decode cX5_init 48 = .ok (.bipush 24, 2) := by decide +kernel
theorem dX5_init_50 : decode cX5_init 50 = .ok (.newarray .int, 2) := by decide +kernel
theorem dX5_init_52 : decode cX5_init 52 = .ok (.putfield 30, 3) := by decide +kernel
theorem dX5_init_55 : decode cX5_init 55 = .ok (.aload_n 0, 1) := by decide +kernel
theorem dX5_init_56 : decode cX5_init 56 = .ok (.aload_n 1, 1) := by decide +kernel
theorem dX5_init_57 : decode cX5_init 57 = .ok (.putfield 33, 3) := by decide +kernel
theorem dX5_init_60 : decode cX5_init 60 = .ok (.return_, 1) := by decide +kernel
theorem dX5_copy_0 : decode cX5_copy 0 = .ok (.aload_n 1, 1) := by decide +kernel
theorem dX5_copy_1 : decode cX5_copy 1 = .ok (.getfield 9, 3) := by decide +kernel
theorem dX5_copy_4 : decode cX5_copy 4 = .ok (.iconst 0, 1) := by decide +kernel
theorem dX5_copy_5 : decode cX5_copy 5 = .ok (.aload_n 0, 1) := by decide +kernel
theorem dX5_copy_6 : decode cX5_copy 6 = .ok (.getfield 9, 3) := by decide +kernel
theorem dX5_copy_9 : decode cX5_copy 9 = .ok (.iconst 0, 1) := by decide +kernel
theorem dX5_copy_10 : decode cX5_copy 10 = .ok (.iconst 5, 1) := by decide +kernel
theorem dX5_copy_11 : decode cX5_copy 11 = .ok (.invokestatic 37, 3) := by decide +kernel
theorem dX5_copy_14 : decode cX5_copy 14 = .ok (.aload_n 1, 1) := by decide +kernel
theorem dX5_copy_15 : decode cX5_copy 15 = .ok (.getfield 15, 3) := by decide +kernel
theorem dX5_copy_18 : decode cX5_copy 18 = .ok (.iconst 0, 1) := by decide +kernel
theorem dX5_copy_19 : decode cX5_copy 19 = .ok (.aload_n 0, 1) := by decide +kernel
theorem dX5_copy_20 : decode cX5_copy 20 = .ok (.getfield 15, 3) := by decide +kernel
theorem dX5_copy_23 : decode cX5_copy 23 = .ok (.iconst 0, 1) := by decide +kernel
theorem dX5_copy_24 : decode cX5_copy 24 = .ok (.iconst 5, 1) := by decide +kernel
theorem dX5_copy_25 : decode cX5_copy 25 = .ok (.invokestatic 37, 3) := by decide +kernel
theorem dX5_copy_28 : decode cX5_copy 28 = .ok (.aload_n 1, 1) := by decide +kernel
theorem dX5_copy_29 : decode cX5_copy 29 = .ok (.getfield 18, 3) := by decide +kernel
theorem dX5_copy_32 : decode cX5_copy 32 = .ok (.iconst 0, 1) := by decide +kernel
theorem dX5_copy_33 : decode cX5_copy 33 = .ok (.aload_n 0, 1) := by decide +kernel
theorem dX5_copy_34 : decode cX5_copy 34 = .ok (.getfield 18, 3) := by decide +kernel
theorem dX5_copy_37 : decode cX5_copy 37 = .ok (.iconst 0, 1) := by decide +kernel
theorem dX5_copy_38 : decode cX5_copy 38 = .ok (.iconst 5, 1) := by decide +kernel
theorem dX5_copy_39 : decode cX5_copy 39 = .ok (.invokestatic 37, 3) := by decide +kernel
theorem dX5_copy_42 : decode cX5_copy 42 = .ok (.aload_n 1, 1) := by decide +kernel
theorem dX5_copy_43 : decode cX5_copy 43 = .ok (.getfield 21, 3) := by decide +kernel
theorem dX5_copy_46 : decode cX5_copy 46 = .ok (.iconst 0, 1) := by decide +kernel
theorem dX5_copy_47 : decode cX5_copy 47 = .ok (.aload_n 0, 1) := by decide +kernel
theorem dX5_copy_48 : decode cX5_copy 48 = .ok (.getfield 21, 3) := by decide +kernel
theorem dX5_copy_51 : decode cX5_copy 51 = .ok (.iconst 0, 1) := by decide +kernel
theorem dX5_copy_52 : decode cX5_copy 52 = .ok (.iconst 5, 1) := by decide +kernel
theorem dX5_copy_53 : decode cX5_copy 53 = .ok (.invokestatic 37, 3) := by decide +kernel
theorem dX5_copy_56 : decode cX5_copy 56 = .ok (.aload_n 1, 1) := by decide +kernel
theorem dX5_copy_57 : decode cX5_copy 57 = .ok (.getfield 24, 3) := by decide +kernel
theorem dX5_copy_60 : decode cX5_copy 60 = .ok (.iconst 0, 1) := by decide +kernel
theorem dX5_copy_61 : decode cX5_copy 61 = .ok (.aload_n 0, 1) := by decide +kernel
theorem dX5_copy_62 : decode cX5_copy 62 = .ok (.getfield 24, 3) := by decide +kernel
theorem dX5_copy_65 : decode cX5_copy 65 = .ok (.iconst 0, 1) := by decide +kernel
theorem dX5_copy_66 : decode cX5_copy 66 = .ok (.iconst 5, 1) := by decide +kernel
theorem dX5_copy_67 : decode cX5_copy 67 = .ok (.invokestatic 37, 3) := by decide +kernel
theorem dX5_copy_70 : decode cX5_copy 70 = .ok (.aload_n 1, 1) := by decide +kernel
theorem dX5_copy_71 : decode cX5_copy 71 = .ok (.getfield 27, 3) := by decide +kernel
theorem dX5_copy_74 : decode cX5_copy 74 = .ok (.iconst 0, 1) := by decide +kernel
theorem dX5_copy_75 : decode cX5_copy 75 = .ok (.aload_n 0, 1) := by decide +kernel
theorem dX5_copy_76 : decode cX5_copy 76 = .ok (.getfield 27, 3) := by decide +kernel
theorem dX5_copy_79 : decode cX5_copy 79 = .ok (.iconst 0, 1) := by decide +kernel
theorem dX5_copy_80 : decode cX5_copy 80 = .ok (.bipush 6, 2) := by decide +kernel
theorem dX5_copy_82 : decode cX5_copy 82 = .ok (.invokestatic 37, 3) := by decide +kernel
theorem dX5_copy_85 : decode cX5_copy 85 = .ok (.aload_n 1, 1) := by decide +kernel
theorem dX5_copy_86 : decode cX5_copy 86 = .ok (.getfield 30, 3) := by decide +kernel
theorem dX5_copy_89 : decode cX5_copy 89 = .ok (.iconst 0, 1) := by decide +kernel
theorem dX5_copy_90 : decode cX5_copy 90 = .ok (.aload_n 0, 1) := by decide +kernel
theorem dX5_copy_91 : decode cX5_copy 91 = .ok (.getfield 30, 3) := by decide +kernel
theorem dX5_copy_94 : decode cX5_copy 94 = .ok (.iconst 0, 1) := by decide +kernel
theorem dX5_copy_95 : decode cX5_copy 95 = .ok (.bipush 24, 2) := by decide +kernel
theorem dX5_copy_97 : decode cX5_copy 97 = .ok (.invokestatic 37, 3) := by decide +kernel
theorem dX5_copy_100 : decode cX5_copy 100 = .ok (.aload_n 0, 1) := by decide +kernel
theorem dX5_copy_101 : decode cX5_copy 101 = .ok (.aload_n 1, 1) := by decide +kernel
theorem dX5_copy_102 : decode cX5_copy 102 = .ok (.getfield 43, 3) := by decide +kernel
theorem dX5_copy_105 : decode cX5_copy 105 = .ok (.putfield 43, 3) := by decide +kernel
theorem dX5_copy_108 : decode cX5_copy 108 = .ok (.aload_n 0, 1) := by decide +kernel
theorem dX5_copy_109 : decode cX5_copy 109 = .ok (.aload_n 1, 1) := by decide +kernel
theorem dX5_copy_110 : decode cX5_copy 110 = .ok (.getfield 47, 3) := by decide +kernel
theorem dX5_copy_113 : decode cX5_copy 113 = .ok (.putfield 47, 3) := by decide +kernel
theorem dX5_copy_116 : decode cX5_copy 116 = .ok (.return_, 1) := by decide +kernel
theorem dX5_take_0 : decode cX5_take 0 = .ok (.aload_n 1, 1) := by decide +kernel
theorem dX5_take_1 : decode cX5_take 1 = .ok (.getfield 50, 3) := by decide +kernel
theorem dX5_take_4 : decode cX5_take 4 = .ok (.iconst 0, 1) := by decide +kernel
theorem dX5_take_5 : decode cX5_take 5 = .ok (.aload_n 0, 1) := by decide +kernel
theorem dX5_take_6 : decode cX5_take 6 = .ok (.getfield 9, 3) := by decide +kernel
theorem dX5_take_9 : decode cX5_take 9 = .ok (.iconst 0, 1) := by decide +kernel
theorem dX5_take_10 : decode cX5_take 10 = .ok (.iconst 5, 1) := by decide +kernel
theorem dX5_take_11 : decode cX5_take 11 = .ok (.invokestatic 37, 3) := by decide +kernel
theorem dX5_take_14 : decode cX5_take 14 = .ok (.aload_n 1, 1) := by decide +kernel
theorem dX5_take_15 : decode cX5_take 15 = .ok (.getfield 53, 3) := by decide +kernel
theorem dX5_take_18 : decode cX5_take 18 = .ok (.iconst 0, 1) := by decide +kernel
theorem dX5_take_19 : decode cX5_take 19 = .ok (.aload_n 0, 1) := by decide +kernel
theorem dX5_take_20 : decode cX5_take 20 = .ok (.getfield 15, 3) := by decide +kernel
theorem dX5_take_23 : decode cX5_take 23 = .ok (.iconst 0, 1) := by decide +kernel
theorem dX5_take_24 : decode cX5_take 24 = .ok (.iconst 5, 1) := by decide +kernel
theorem dX5_take_25 : decode cX5_take 25 = .ok (.invokestatic 37, 3) := by decide +kernel
theorem dX5_take_28 : decode cX5_take 28 = .ok (.aload_n 1, 1) := by decide +kernel
theorem dX5_take_29 : decode cX5_take 29 = .ok (.getfield 54, 3) := by decide +kernel
theorem dX5_take_32 : decode cX5_take 32 = .ok (.iconst 0, 1) := by decide +kernel
theorem dX5_take_33 : decode cX5_take 33 = .ok (.aload_n 0, 1) := by decide +kernel
theorem dX5_take_34 : decode cX5_take 34 = .ok (.getfield 27, 3) := by decide +kernel
theorem dX5_take_37 : decode cX5_take 37 = .ok (.iconst 0, 1) := by decide +kernel
theorem dX5_take_38 : decode cX5_take 38 = .ok (.bipush 6, 2) := by decide +kernel
theorem dX5_take_40 : decode cX5_take 40 = .ok (.invokestatic 37, 3) := by decide +kernel
theorem dX5_take_43 : decode cX5_take 43 = .ok (.aload_n 0, 1) := by decide +kernel
theorem dX5_take_44 : decode cX5_take 44 = .ok (.getfield 18, 3) := by decide +kernel
theorem dX5_take_47 : decode cX5_take 47 = .ok (.iconst 0, 1) := by decide +kernel
theorem dX5_take_48 : decode cX5_take 48 = .ok (.invokestatic 55, 3) := by decide +kernel
theorem dX5_take_51 : decode cX5_take 51 = .ok (.aload_n 0, 1) := by decide +kernel
theorem dX5_take_52 : decode cX5_take 52 = .ok (.getfield 21, 3) := by decide +kernel
theorem dX5_take_55 : decode cX5_take 55 = .ok (.iconst 0, 1) := by decide +kernel
theorem dX5_take_56 : decode cX5_take 56 = .ok (.invokestatic 55, 3) := by decide +kernel
theorem dX5_take_59 : decode cX5_take 59 = .ok (.aload_n 0, 1) := by decide +kernel
theorem dX5_take_60 : decode cX5_take 60 = .ok (.getfield 24, 3) := by decide +kernel
theorem dX5_take_63 : decode cX5_take 63 = .ok (.iconst 0, 1) := by decide +kernel
theorem dX5_take_64 : decode cX5_take 64 = .ok (.invokestatic 55, 3) := by decide +kernel
theorem dX5_take_67 : decode cX5_take 67 = .ok (.aload_n 0, 1) := by decide +kernel
theorem dX5_take_68 : decode cX5_take 68 = .ok (.getfield 30, 3) := by decide +kernel
theorem dX5_take_71 : decode cX5_take 71 = .ok (.iconst 0, 1) := by decide +kernel
theorem dX5_take_72 : decode cX5_take 72 = .ok (.invokestatic 55, 3) := by decide +kernel
theorem dX5_take_75 : decode cX5_take 75 = .ok (.aload_n 0, 1) := by decide +kernel
theorem dX5_take_76 : decode cX5_take 76 = .ok (.iconst 0, 1) := by decide +kernel
theorem dX5_take_77 : decode cX5_take 77 = .ok (.putfield 43, 3) := by decide +kernel
theorem dX5_take_80 : decode cX5_take 80 = .ok (.aload_n 0, 1) := by decide +kernel
theorem dX5_take_81 : decode cX5_take 81 = .ok (.iconst 0, 1) := by decide +kernel
theorem dX5_take_82 : decode cX5_take 82 = .ok (.putfield 47, 3) := by decide +kernel
theorem dX5_take_85 : decode cX5_take 85 = .ok (.return_, 1) := by decide +kernel
theorem dX5_isQuarantined_0 : decode cX5_isQuarantined 0 = .ok (.aload_n 0, 1) := by decide +kernel
theorem dX5_isQuarantined_1 : decode cX5_isQuarantined 1 = .ok (.getfield 24, 3) := by decide +kernel
theorem dX5_isQuarantined_4 : decode cX5_isQuarantined 4 = .ok (.iload_n 1, 1) := by decide +kernel
theorem dX5_isQuarantined_5 : decode cX5_isQuarantined 5 = .ok (.iaload, 1) := by decide +kernel
theorem dX5_isQuarantined_6 : decode cX5_isQuarantined 6 = .ok (.aload_n 0, 1) := by decide +kernel
theorem dX5_isQuarantined_7 : decode cX5_isQuarantined 7 = .ok (.getfield 43, 3) := by decide +kernel
theorem dX5_isQuarantined_10 : decode cX5_isQuarantined 10 = .ok (.if_icmp .le 7, 3) := by decide +kernel
theorem dX5_isQuarantined_13 : decode cX5_isQuarantined 13 = .ok (.iconst 1, 1) := by decide +kernel
theorem dX5_isQuarantined_14 : decode cX5_isQuarantined 14 = .ok (.goto 4, 3) := by decide +kernel
theorem dX5_isQuarantined_17 : decode cX5_isQuarantined 17 = .ok (.iconst 0, 1) := by decide +kernel
theorem dX5_isQuarantined_18 : decode cX5_isQuarantined 18 = .ok (.ireturn, 1) := by decide +kernel
theorem dX5_isDrifted_0 : decode cX5_isDrifted 0 = .ok (.aload_n 0, 1) := by decide +kernel
theorem dX5_isDrifted_1 : decode cX5_isDrifted 1 = .ok (.getfield 9, 3) := by decide +kernel
theorem dX5_isDrifted_4 : decode cX5_isDrifted 4 = .ok (.iload_n 1, 1) := by decide +kernel
theorem dX5_isDrifted_5 : decode cX5_isDrifted 5 = .ok (.iaload, 1) := by decide +kernel
theorem dX5_isDrifted_6 : decode cX5_isDrifted 6 = .ok (.aload_n 0, 1) := by decide +kernel
theorem dX5_isDrifted_7 : decode cX5_isDrifted 7 = .ok (.getfield 15, 3) := by decide +kernel
theorem dX5_isDrifted_10 : decode cX5_isDrifted 10 = .ok (.iload_n 1, 1) := by decide +kernel
theorem dX5_isDrifted_11 : decode cX5_isDrifted 11 = .ok (.iaload, 1) := by decide +kernel
theorem dX5_isDrifted_12 : decode cX5_isDrifted 12 = .ok (.ixor, 1) := by decide +kernel
theorem dX5_isDrifted_13 : decode cX5_isDrifted 13 = .ok (.iconst 2, 1) := by decide +kernel
theorem dX5_isDrifted_14 : decode cX5_isDrifted 14 = .ok (.iload_n 2, 1) := by decide +kernel
theorem dX5_isDrifted_15 : decode cX5_isDrifted 15 = .ok (.imul, 1) := by decide +kernel
theorem dX5_isDrifted_16 : decode cX5_isDrifted 16 = .ok (.ishr, 1) := by decide +kernel
theorem dX5_isDrifted_17 : decode cX5_isDrifted 17 = .ok (.iconst 3, 1) := by decide +kernel
theorem dX5_isDrifted_18 : decode cX5_isDrifted 18 = .ok (.iand, 1) := by decide +kernel
theorem dX5_isDrifted_19 : decode cX5_isDrifted 19 = .ok (.ifCond .eq 7, 3) := by decide +kernel
theorem dX5_isDrifted_22 : decode cX5_isDrifted 22 = .ok (.iconst 1, 1) := by decide +kernel
theorem dX5_isDrifted_23 : decode cX5_isDrifted 23 = .ok (.goto 4, 3) := by decide +kernel
theorem dX5_isDrifted_26 : decode cX5_isDrifted 26 = .ok (.iconst 0, 1) := by decide +kernel
theorem dX5_isDrifted_27 : decode cX5_isDrifted 27 = .ok (.ireturn, 1) := by decide +kernel
theorem dX5_driftedOn_0 : decode cX5_driftedOn 0 = .ok (.iconst 0, 1) := by decide +kernel
theorem dX5_driftedOn_1 : decode cX5_driftedOn 1 = .ok (.istore_n 2, 1) := by decide +kernel
theorem dX5_driftedOn_2 : decode cX5_driftedOn 2 = .ok (.iconst 0, 1) := by decide +kernel
theorem dX5_driftedOn_3 : decode cX5_driftedOn 3 = .ok (.istore_n 3, 1) := by decide +kernel
theorem dX5_driftedOn_4 : decode cX5_driftedOn 4 = .ok (.iload_n 3, 1) := by decide +kernel
theorem dX5_driftedOn_5 : decode cX5_driftedOn 5 = .ok (.aload_n 0, 1) := by decide +kernel
theorem dX5_driftedOn_6 : decode cX5_driftedOn 6 = .ok (.getfield 33, 3) := by decide +kernel
theorem dX5_driftedOn_9 : decode cX5_driftedOn 9 = .ok (.getfield 61, 3) := by decide +kernel
theorem dX5_driftedOn_12 : decode cX5_driftedOn 12 = .ok (.if_icmp .ge 24, 3) := by decide +kernel
theorem dX5_driftedOn_15 : decode cX5_driftedOn 15 = .ok (.aload_n 0, 1) := by decide +kernel
theorem dX5_driftedOn_16 : decode cX5_driftedOn 16 = .ok (.iload_n 1, 1) := by decide +kernel
theorem dX5_driftedOn_17 : decode cX5_driftedOn 17 = .ok (.iload_n 3, 1) := by decide +kernel
theorem dX5_driftedOn_18 : decode cX5_driftedOn 18 = .ok (.invokevirtual 66, 3) := by decide +kernel
theorem dX5_driftedOn_21 : decode cX5_driftedOn 21 = .ok (.ifCond .eq 9, 3) := by decide +kernel
theorem dX5_driftedOn_24 : decode cX5_driftedOn 24 = .ok (.iload_n 2, 1) := by decide +kernel
theorem dX5_driftedOn_25 : decode cX5_driftedOn 25 = .ok (.iconst 1, 1) := by decide +kernel
theorem dX5_driftedOn_26 : decode cX5_driftedOn 26 = .ok (.iload_n 3, 1) := by decide +kernel
theorem dX5_driftedOn_27 : decode cX5_driftedOn 27 = .ok (.ishl, 1) := by decide +kernel
theorem dX5_driftedOn_28 : decode cX5_driftedOn 28 = .ok (.ior, 1) := by decide +kernel
theorem dX5_driftedOn_29 : decode cX5_driftedOn 29 = .ok (.istore_n 2, 1) := by decide +kernel
theorem dX5_driftedOn_30 : decode cX5_driftedOn 30 = .ok (.iinc 3 1, 3) := by decide +kernel
theorem dX5_driftedOn_33 : decode cX5_driftedOn 33 = .ok (.goto (-29), 3) := by decide +kernel
theorem dX5_driftedOn_36 : decode cX5_driftedOn 36 = .ok (.iload_n 2, 1) := by decide +kernel
theorem dX5_driftedOn_37 : decode cX5_driftedOn 37 = .ok (.ireturn, 1) := by decide +kernel
theorem dX5_driftedNodes_0 : decode cX5_driftedNodes 0 = .ok (.iconst 0, 1) := by decide +kernel
theorem dX5_driftedNodes_1 : decode cX5_driftedNodes 1 = .ok (.istore_n 1, 1) := by decide +kernel
theorem dX5_driftedNodes_2 : decode cX5_driftedNodes 2 = .ok (.iconst 0, 1) := by decide +kernel
theorem dX5_driftedNodes_3 : decode cX5_driftedNodes 3 = .ok (.istore_n 2, 1) := by decide +kernel
theorem dX5_driftedNodes_4 : decode cX5_driftedNodes 4 = .ok (.iload_n 2, 1) := by decide +kernel
theorem dX5_driftedNodes_5 : decode cX5_driftedNodes 5 = .ok (.aload_n 0, 1) := by decide +kernel
theorem dX5_driftedNodes_6 : decode cX5_driftedNodes 6 = .ok (.getfield 33, 3) := by decide +kernel
theorem dX5_driftedNodes_9 : decode cX5_driftedNodes 9 = .ok (.getfield 70, 3) := by decide +kernel
theorem dX5_driftedNodes_12 : decode cX5_driftedNodes 12 = .ok (.if_icmp .ge 30, 3) := by decide +kernel
theorem dX5_driftedNodes_15 : decode cX5_driftedNodes 15 = .ok (.aload_n 0, 1) := by decide +kernel
theorem dX5_driftedNodes_16 : decode cX5_driftedNodes 16 = .ok (.getfield 9, 3) := by decide +kernel
theorem dX5_driftedNodes_19 : decode cX5_driftedNodes 19 = .ok (.iload_n 2, 1) := by decide +kernel
theorem dX5_driftedNodes_20 : decode cX5_driftedNodes 20 = .ok (.iaload, 1) := by decide +kernel
theorem dX5_driftedNodes_21 : decode cX5_driftedNodes 21 = .ok (.aload_n 0, 1) := by decide +kernel
theorem dX5_driftedNodes_22 : decode cX5_driftedNodes 22 = .ok (.getfield 15, 3) := by decide +kernel
theorem dX5_driftedNodes_25 : decode cX5_driftedNodes 25 = .ok (.iload_n 2, 1) := by decide +kernel
theorem dX5_driftedNodes_26 : decode cX5_driftedNodes 26 = .ok (.iaload, 1) := by decide +kernel
theorem dX5_driftedNodes_27 : decode cX5_driftedNodes 27 = .ok (.if_icmp .eq 9, 3) := by decide +kernel
theorem dX5_driftedNodes_30 : decode cX5_driftedNodes 30 = .ok (.iload_n 1, 1) := by decide +kernel
theorem dX5_driftedNodes_31 : decode cX5_driftedNodes 31 = .ok (.iconst 1, 1) := by decide +kernel
theorem dX5_driftedNodes_32 : decode cX5_driftedNodes 32 = .ok (.iload_n 2, 1) := by decide +kernel
theorem dX5_driftedNodes_33 : decode cX5_driftedNodes 33 = .ok (.ishl, 1) := by decide +kernel
theorem dX5_driftedNodes_34 : decode cX5_driftedNodes 34 = .ok (.ior, 1) := by decide +kernel
theorem dX5_driftedNodes_35 : decode cX5_driftedNodes 35 = .ok (.istore_n 1, 1) := by decide +kernel
theorem dX5_driftedNodes_36 : decode cX5_driftedNodes 36 = .ok (.iinc 2 1, 3) := by decide +kernel
theorem dX5_driftedNodes_39 : decode cX5_driftedNodes 39 = .ok (.goto (-35), 3) := by decide +kernel
theorem dX5_driftedNodes_42 : decode cX5_driftedNodes 42 = .ok (.iload_n 1, 1) := by decide +kernel
theorem dX5_driftedNodes_43 : decode cX5_driftedNodes 43 = .ok (.ireturn, 1) := by decide +kernel
theorem dX5_calmNodes_0 : decode cX5_calmNodes 0 = .ok (.iconst 1, 1) := by decide +kernel
theorem dX5_calmNodes_1 : decode cX5_calmNodes 1 = .ok (.aload_n 0, 1) := by decide +kernel
theorem dX5_calmNodes_2 : decode cX5_calmNodes 2 = .ok (.getfield 33, 3) := by decide +kernel
theorem dX5_calmNodes_5 : decode cX5_calmNodes 5 = .ok (.getfield 70, 3) := by decide +kernel
theorem dX5_calmNodes_8 : decode cX5_calmNodes 8 = .ok (.ishl, 1) := by decide +kernel
theorem dX5_calmNodes_9 : decode cX5_calmNodes 9 = .ok (.iconst 1, 1) := by decide +kernel
theorem dX5_calmNodes_10 : decode cX5_calmNodes 10 = .ok (.isub, 1) := by decide +kernel
theorem dX5_calmNodes_11 : decode cX5_calmNodes 11 = .ok (.aload_n 0, 1) := by decide +kernel
theorem dX5_calmNodes_12 : decode cX5_calmNodes 12 = .ok (.invokevirtual 73, 3) := by decide +kernel
theorem dX5_calmNodes_15 : decode cX5_calmNodes 15 = .ok (.iconst (-1), 1) := by decide +kernel
theorem dX5_calmNodes_16 : decode cX5_calmNodes 16 = .ok (.ixor, 1) := by decide +kernel
theorem dX5_calmNodes_17 : decode cX5_calmNodes 17 = .ok (.iand, 1) := by decide +kernel
theorem dX5_calmNodes_18 : decode cX5_calmNodes 18 = .ok (.ireturn, 1) := by decide +kernel
theorem dX5_digestOf_0 : decode cX5_digestOf 0 = .ok (.iconst 0, 1) := by decide +kernel
theorem dX5_digestOf_1 : decode cX5_digestOf 1 = .ok (.istore_n 2, 1) := by decide +kernel
theorem dX5_digestOf_2 : decode cX5_digestOf 2 = .ok (.iconst 0, 1) := by decide +kernel
theorem dX5_digestOf_3 : decode cX5_digestOf 3 = .ok (.istore_n 3, 1) := by decide +kernel
theorem dX5_digestOf_4 : decode cX5_digestOf 4 = .ok (.iload_n 3, 1) := by decide +kernel
theorem dX5_digestOf_5 : decode cX5_digestOf 5 = .ok (.aload_n 0, 1) := by decide +kernel
theorem dX5_digestOf_6 : decode cX5_digestOf 6 = .ok (.getfield 33, 3) := by decide +kernel
theorem dX5_digestOf_9 : decode cX5_digestOf 9 = .ok (.getfield 61, 3) := by decide +kernel
theorem dX5_digestOf_12 : decode cX5_digestOf 12 = .ok (.if_icmp .ge 26, 3) := by decide +kernel
theorem dX5_digestOf_15 : decode cX5_digestOf 15 = .ok (.iload_n 2, 1) := by decide +kernel
theorem dX5_digestOf_16 : decode cX5_digestOf 16 = .ok (.iload_n 3, 1) := by decide +kernel
theorem dX5_digestOf_17 : decode cX5_digestOf 17 = .ok (.iconst 1, 1) := by decide +kernel
theorem dX5_digestOf_18 : decode cX5_digestOf 18 = .ok (.iadd, 1) := by decide +kernel
theorem dX5_digestOf_19 : decode cX5_digestOf 19 = .ok (.aload_n 0, 1) := by decide +kernel
theorem dX5_digestOf_20 : decode cX5_digestOf 20 = .ok (.getfield 9, 3) := by decide +kernel
theorem dX5_digestOf_23 : decode cX5_digestOf 23 = .ok (.iload_n 1, 1) := by decide +kernel
theorem dX5_digestOf_24 : decode cX5_digestOf 24 = .ok (.iaload, 1) := by decide +kernel
theorem dX5_digestOf_25 : decode cX5_digestOf 25 = .ok (.iload_n 3, 1) := by decide +kernel
theorem dX5_digestOf_26 : decode cX5_digestOf 26 = .ok (.invokestatic 77, 3) := by decide +kernel
theorem dX5_digestOf_29 : decode cX5_digestOf 29 = .ok (.imul, 1) := by decide +kernel
theorem dX5_digestOf_30 : decode cX5_digestOf 30 = .ok (.iadd, 1) := by decide +kernel
theorem dX5_digestOf_31 : decode cX5_digestOf 31 = .ok (.istore_n 2, 1) := by decide +kernel
theorem dX5_digestOf_32 : decode cX5_digestOf 32 = .ok (.iinc 3 1, 3) := by decide +kernel
theorem dX5_digestOf_35 : decode cX5_digestOf 35 = .ok (.goto (-31), 3) := by decide +kernel
theorem dX5_digestOf_38 : decode cX5_digestOf 38 = .ok (.iload_n 2, 1) := by decide +kernel
theorem dX5_digestOf_39 : decode cX5_digestOf 39 = .ok (.ireturn, 1) := by decide +kernel
theorem dX5_numberOf_0 : decode cX5_numberOf 0 = .ok (.iload_n 2, 1) := by decide +kernel
theorem dX5_numberOf_1 : decode cX5_numberOf 1 = .ok (.tableswitch 106 0 5 #[39, 49, 56, 63, 83, 89], 39) := by decide +kernel
theorem dX5_numberOf_40 : decode cX5_numberOf 40 = .ok (.aload_n 0, 1) := by decide +kernel
theorem dX5_numberOf_41 : decode cX5_numberOf 41 = .ok (.getfield 33, 3) := by decide +kernel
theorem dX5_numberOf_44 : decode cX5_numberOf 44 = .ok (.getfield 83, 3) := by decide +kernel
theorem dX5_numberOf_47 : decode cX5_numberOf 47 = .ok (.iload_n 1, 1) := by decide +kernel
theorem dX5_numberOf_48 : decode cX5_numberOf 48 = .ok (.iaload, 1) := by decide +kernel
theorem dX5_numberOf_49 : decode cX5_numberOf 49 = .ok (.ireturn, 1) := by decide +kernel
theorem dX5_numberOf_50 : decode cX5_numberOf 50 = .ok (.aload_n 0, 1) := by decide +kernel
theorem dX5_numberOf_51 : decode cX5_numberOf 51 = .ok (.getfield 18, 3) := by decide +kernel
theorem dX5_numberOf_54 : decode cX5_numberOf 54 = .ok (.iload_n 1, 1) := by decide +kernel
theorem dX5_numberOf_55 : decode cX5_numberOf 55 = .ok (.iaload, 1) := by decide +kernel
theorem dX5_numberOf_56 : decode cX5_numberOf 56 = .ok (.ireturn, 1) := by decide +kernel
theorem dX5_numberOf_57 : decode cX5_numberOf 57 = .ok (.aload_n 0, 1) := by decide +kernel
theorem dX5_numberOf_58 : decode cX5_numberOf 58 = .ok (.getfield 21, 3) := by decide +kernel
theorem dX5_numberOf_61 : decode cX5_numberOf 61 = .ok (.iload_n 1, 1) := by decide +kernel
theorem dX5_numberOf_62 : decode cX5_numberOf 62 = .ok (.iaload, 1) := by decide +kernel
theorem dX5_numberOf_63 : decode cX5_numberOf 63 = .ok (.ireturn, 1) := by decide +kernel
theorem dX5_numberOf_64 : decode cX5_numberOf 64 = .ok (.aload_n 0, 1) := by decide +kernel
theorem dX5_numberOf_65 : decode cX5_numberOf 65 = .ok (.iload_n 1, 1) := by decide +kernel
theorem dX5_numberOf_66 : decode cX5_numberOf 66 = .ok (.invokevirtual 86, 3) := by decide +kernel
theorem dX5_numberOf_69 : decode cX5_numberOf 69 = .ok (.ifCond .eq 12, 3) := by decide +kernel
theorem dX5_numberOf_72 : decode cX5_numberOf 72 = .ok (.aload_n 0, 1) := by decide +kernel
theorem dX5_numberOf_73 : decode cX5_numberOf 73 = .ok (.getfield 24, 3) := by decide +kernel
theorem dX5_numberOf_76 : decode cX5_numberOf 76 = .ok (.iload_n 1, 1) := by decide +kernel
theorem dX5_numberOf_77 : decode cX5_numberOf 77 = .ok (.iaload, 1) := by decide +kernel
theorem dX5_numberOf_78 : decode cX5_numberOf 78 = .ok (.goto 5, 3) := by decide +kernel
theorem dX5_numberOf_81 : decode cX5_numberOf 81 = .ok (.bipush (-9), 2) := by decide +kernel
theorem dX5_numberOf_83 : decode cX5_numberOf 83 = .ok (.ireturn, 1) := by decide +kernel
theorem dX5_numberOf_84 : decode cX5_numberOf 84 = .ok (.aload_n 0, 1) := by decide +kernel
theorem dX5_numberOf_85 : decode cX5_numberOf 85 = .ok (.iload_n 1, 1) := by decide +kernel
theorem dX5_numberOf_86 : decode cX5_numberOf 86 = .ok (.invokevirtual 90, 3) := by decide +kernel
theorem dX5_numberOf_89 : decode cX5_numberOf 89 = .ok (.ireturn, 1) := by decide +kernel
theorem dX5_numberOf_90 : decode cX5_numberOf 90 = .ok (.aload_n 0, 1) := by decide +kernel
theorem dX5_numberOf_91 : decode cX5_numberOf 91 = .ok (.getfield 33, 3) := by decide +kernel
theorem dX5_numberOf_94 : decode cX5_numberOf 94 = .ok (.getfield 94, 3) := by decide +kernel
theorem dX5_numberOf_97 : decode cX5_numberOf 97 = .ok (.aload_n 0, 1) := by decide +kernel
theorem dX5_numberOf_98 : decode cX5_numberOf 98 = .ok (.getfield 9, 3) := by decide +kernel
theorem dX5_numberOf_101 : decode cX5_numberOf 101 = .ok (.iload_n 1, 1) := by decide +kernel
theorem dX5_numberOf_102 : decode cX5_numberOf 102 = .ok (.iaload, 1) := by decide +kernel
theorem dX5_numberOf_103 : decode cX5_numberOf 103 = .ok (.invokevirtual 98, 3) := by decide +kernel
theorem dX5_numberOf_106 : decode cX5_numberOf 106 = .ok (.ireturn, 1) := by decide +kernel
theorem dX5_numberOf_107 : decode cX5_numberOf 107 = .ok (.aload_n 0, 1) := by decide +kernel
theorem dX5_numberOf_108 : decode cX5_numberOf 108 = .ok (.iload_n 1, 1) := by decide +kernel
theorem dX5_numberOf_109 : decode cX5_numberOf 109 = .ok (.invokevirtual 103, 3) := by decide +kernel
theorem dX5_numberOf_112 : decode cX5_numberOf 112 = .ok (.ireturn, 1) := by decide +kernel
theorem dX5_stateOf_0 : decode cX5_stateOf 0 = .ok (.aload_n 0, 1) := by decide +kernel
theorem dX5_stateOf_1 : decode cX5_stateOf 1 = .ok (.iload_n 1, 1) := by decide +kernel
theorem dX5_stateOf_2 : decode cX5_stateOf 2 = .ok (.iload_n 2, 1) := by decide +kernel
theorem dX5_stateOf_3 : decode cX5_stateOf 3 = .ok (.invokevirtual 66, 3) := by decide +kernel
theorem dX5_stateOf_6 : decode cX5_stateOf 6 = .ok (.ifCond .ne 5, 3) := by decide +kernel
theorem dX5_stateOf_9 : decode cX5_stateOf 9 = .ok (.iconst 1, 1) := by decide +kernel
theorem dX5_stateOf_10 : decode cX5_stateOf 10 = .ok (.ireturn, 1) := by decide +kernel
theorem dX5_stateOf_11 : decode cX5_stateOf 11 = .ok (.aload_n 0, 1) := by decide +kernel
theorem dX5_stateOf_12 : decode cX5_stateOf 12 = .ok (.iload_n 1, 1) := by decide +kernel
theorem dX5_stateOf_13 : decode cX5_stateOf 13 = .ok (.invokevirtual 86, 3) := by decide +kernel
theorem dX5_stateOf_16 : decode cX5_stateOf 16 = .ok (.ifCond .eq 5, 3) := by decide +kernel
theorem dX5_stateOf_19 : decode cX5_stateOf 19 = .ok (.iconst 2, 1) := by decide +kernel
theorem dX5_stateOf_20 : decode cX5_stateOf 20 = .ok (.ireturn, 1) := by decide +kernel
theorem dX5_stateOf_21 : decode cX5_stateOf 21 = .ok (.aload_n 0, 1) := by decide +kernel
theorem dX5_stateOf_22 : decode cX5_stateOf 22 = .ok (.iload_n 2, 1) := by decide +kernel
theorem dX5_stateOf_23 : decode cX5_stateOf 23 = .ok (.aload_n 0, 1) := by decide +kernel
theorem dX5_stateOf_24 : decode cX5_stateOf 24 = .ok (.getfield 15, 3) := by decide +kernel
theorem dX5_stateOf_27 : decode cX5_stateOf 27 = .ok (.iload_n 1, 1) := by decide +kernel
theorem dX5_stateOf_28 : decode cX5_stateOf 28 = .ok (.iaload, 1) := by decide +kernel
theorem dX5_stateOf_29 : decode cX5_stateOf 29 = .ok (.iload_n 2, 1) := by decide +kernel
theorem dX5_stateOf_30 : decode cX5_stateOf 30 = .ok (.invokestatic 77, 3) := by decide +kernel
theorem dX5_stateOf_33 : decode cX5_stateOf 33 = .ok (.invokevirtual 106, 3) := by decide +kernel
theorem dX5_stateOf_36 : decode cX5_stateOf 36 = .ok (.ifCond .le 5, 3) := by decide +kernel
theorem dX5_stateOf_39 : decode cX5_stateOf 39 = .ok (.iconst 3, 1) := by decide +kernel
theorem dX5_stateOf_40 : decode cX5_stateOf 40 = .ok (.ireturn, 1) := by decide +kernel
theorem dX5_stateOf_41 : decode cX5_stateOf 41 = .ok (.aload_n 0, 1) := by decide +kernel
theorem dX5_stateOf_42 : decode cX5_stateOf 42 = .ok (.aload_n 0, 1) := by decide +kernel
theorem dX5_stateOf_43 : decode cX5_stateOf 43 = .ok (.getfield 33, 3) := by decide +kernel
theorem dX5_stateOf_46 : decode cX5_stateOf 46 = .ok (.getfield 83, 3) := by decide +kernel
theorem dX5_stateOf_49 : decode cX5_stateOf 49 = .ok (.iload_n 1, 1) := by decide +kernel
theorem dX5_stateOf_50 : decode cX5_stateOf 50 = .ok (.iaload, 1) := by decide +kernel
theorem dX5_stateOf_51 : decode cX5_stateOf 51 = .ok (.iload_n 2, 1) := by decide +kernel
theorem dX5_stateOf_52 : decode cX5_stateOf 52 = .ok (.invokevirtual 109, 3) := by decide +kernel
theorem dX5_stateOf_55 : decode cX5_stateOf 55 = .ok (.ifCond .eq 5, 3) := by decide +kernel
theorem dX5_stateOf_58 : decode cX5_stateOf 58 = .ok (.iconst 4, 1) := by decide +kernel
theorem dX5_stateOf_59 : decode cX5_stateOf 59 = .ok (.ireturn, 1) := by decide +kernel
theorem dX5_stateOf_60 : decode cX5_stateOf 60 = .ok (.aload_n 0, 1) := by decide +kernel
theorem dX5_stateOf_61 : decode cX5_stateOf 61 = .ok (.iload_n 1, 1) := by decide +kernel
theorem dX5_stateOf_62 : decode cX5_stateOf 62 = .ok (.iload_n 2, 1) := by decide +kernel
theorem dX5_stateOf_63 : decode cX5_stateOf 63 = .ok (.invokevirtual 112, 3) := by decide +kernel
theorem dX5_stateOf_66 : decode cX5_stateOf 66 = .ok (.ifCond .eq 7, 3) := by decide +kernel
theorem dX5_stateOf_69 : decode cX5_stateOf 69 = .ok (.iconst 5, 1) := by decide +kernel
theorem dX5_stateOf_70 : decode cX5_stateOf 70 = .ok (.goto 4, 3) := by decide +kernel
theorem dX5_stateOf_73 : decode cX5_stateOf 73 = .ok (.iconst 0, 1) := by decide +kernel
theorem dX5_stateOf_74 : decode cX5_stateOf 74 = .ok (.ireturn, 1) := by decide +kernel
theorem dX5_missingTo_0 : decode cX5_missingTo 0 = .ok (.iconst 0, 1) := by decide +kernel
theorem dX5_missingTo_1 : decode cX5_missingTo 1 = .ok (.aload_n 0, 1) := by decide +kernel
theorem dX5_missingTo_2 : decode cX5_missingTo 2 = .ok (.getfield 27, 3) := by decide +kernel
theorem dX5_missingTo_5 : decode cX5_missingTo 5 = .ok (.iload_n 1, 1) := by decide +kernel
theorem dX5_missingTo_6 : decode cX5_missingTo 6 = .ok (.iaload, 1) := by decide +kernel
theorem dX5_missingTo_7 : decode cX5_missingTo 7 = .ok (.aload_n 0, 1) := by decide +kernel
theorem dX5_missingTo_8 : decode cX5_missingTo 8 = .ok (.getfield 30, 3) := by decide +kernel
theorem dX5_missingTo_11 : decode cX5_missingTo 11 = .ok (.iload_n 1, 1) := by decide +kernel
theorem dX5_missingTo_12 : decode cX5_missingTo 12 = .ok (.iload_n 2, 1) := by decide +kernel
theorem dX5_missingTo_13 : decode cX5_missingTo 13 = .ok (.invokestatic 115, 3) := by decide +kernel
theorem dX5_missingTo_16 : decode cX5_missingTo 16 = .ok (.iaload, 1) := by decide +kernel
theorem dX5_missingTo_17 : decode cX5_missingTo 17 = .ok (.invokestatic 118, 3) := by decide +kernel
theorem dX5_missingTo_20 : decode cX5_missingTo 20 = .ok (.isub, 1) := by decide +kernel
theorem dX5_missingTo_21 : decode cX5_missingTo 21 = .ok (.invokestatic 123, 3) := by decide +kernel
theorem dX5_missingTo_24 : decode cX5_missingTo 24 = .ok (.ireturn, 1) := by decide +kernel
theorem dX5_isDriftedBelow_0 : decode cX5_isDriftedBelow 0 = .ok (.iconst 0, 1) := by decide +kernel
theorem dX5_isDriftedBelow_1 : decode cX5_isDriftedBelow 1 = .ok (.istore_n 3, 1) := by decide +kernel
theorem dX5_isDriftedBelow_2 : decode cX5_isDriftedBelow 2 = .ok (.iload_n 3, 1) := by decide +kernel
theorem dX5_isDriftedBelow_3 : decode cX5_isDriftedBelow 3 = .ok (.aload_n 0, 1) := by decide +kernel
theorem dX5_isDriftedBelow_4 : decode cX5_isDriftedBelow 4 = .ok (.getfield 33, 3) := by decide +kernel
theorem dX5_isDriftedBelow_7 : decode cX5_isDriftedBelow 7 = .ok (.getfield 70, 3) := by decide +kernel
theorem dX5_isDriftedBelow_10 : decode cX5_isDriftedBelow 10 = .ok (.if_icmp .ge 41, 3) := by decide +kernel
theorem dX5_isDriftedBelow_13 : decode cX5_isDriftedBelow 13 = .ok (.aload_n 0, 1) := by decide +kernel
theorem dX5_isDriftedBelow_14 : decode cX5_isDriftedBelow 14 = .ok (.getfield 33, 3) := by decide +kernel
theorem dX5_isDriftedBelow_17 : decode cX5_isDriftedBelow 17 = .ok (.getfield 83, 3) := by decide +kernel
theorem dX5_isDriftedBelow_20 : decode cX5_isDriftedBelow 20 = .ok (.iload_n 3, 1) := by decide +kernel
theorem dX5_isDriftedBelow_21 : decode cX5_isDriftedBelow 21 = .ok (.iaload, 1) := by decide +kernel
theorem dX5_isDriftedBelow_22 : decode cX5_isDriftedBelow 22 = .ok (.iload_n 1, 1) := by decide +kernel
theorem dX5_isDriftedBelow_23 : decode cX5_isDriftedBelow 23 = .ok (.if_icmp .ge 22, 3) := by decide +kernel
theorem dX5_isDriftedBelow_26 : decode cX5_isDriftedBelow 26 = .ok (.aload_n 0, 1) := by decide +kernel
theorem dX5_isDriftedBelow_27 : decode cX5_isDriftedBelow 27 = .ok (.iload_n 3, 1) := by decide +kernel
theorem dX5_isDriftedBelow_28 : decode cX5_isDriftedBelow 28 = .ok (.invokevirtual 86, 3) := by decide +kernel
theorem dX5_isDriftedBelow_31 : decode cX5_isDriftedBelow 31 = .ok (.ifCond .ne 14, 3) := by decide +kernel
theorem dX5_isDriftedBelow_34 : decode cX5_isDriftedBelow 34 = .ok (.aload_n 0, 1) := by decide +kernel
theorem dX5_isDriftedBelow_35 : decode cX5_isDriftedBelow 35 = .ok (.iload_n 3, 1) := by decide +kernel
theorem dX5_isDriftedBelow_36 : decode cX5_isDriftedBelow 36 = .ok (.iload_n 2, 1) := by decide +kernel
theorem dX5_isDriftedBelow_37 : decode cX5_isDriftedBelow 37 = .ok (.invokevirtual 66, 3) := by decide +kernel
theorem dX5_isDriftedBelow_40 : decode cX5_isDriftedBelow 40 = .ok (.ifCond .eq 5, 3) := by decide +kernel
theorem dX5_isDriftedBelow_43 : decode cX5_isDriftedBelow 43 = .ok (.iconst 1, 1) := by decide +kernel
theorem dX5_isDriftedBelow_44 : decode cX5_isDriftedBelow 44 = .ok (.ireturn, 1) := by decide +kernel
theorem dX5_isDriftedBelow_45 : decode cX5_isDriftedBelow 45 = .ok (.iinc 3 1, 3) := by decide +kernel
theorem dX5_isDriftedBelow_48 : decode cX5_isDriftedBelow 48 = .ok (.goto (-46), 3) := by decide +kernel
theorem dX5_isDriftedBelow_51 : decode cX5_isDriftedBelow 51 = .ok (.iconst 0, 1) := by decide +kernel
theorem dX5_isDriftedBelow_52 : decode cX5_isDriftedBelow 52 = .ok (.ireturn, 1) := by decide +kernel
theorem dX5_brokenByWish_0 : decode cX5_brokenByWish 0 = .ok (.aload_n 0, 1) := by decide +kernel
theorem dX5_brokenByWish_1 : decode cX5_brokenByWish 1 = .ok (.getfield 33, 3) := by decide +kernel
theorem dX5_brokenByWish_4 : decode cX5_brokenByWish 4 = .ok (.getfield 94, 3) := by decide +kernel
theorem dX5_brokenByWish_7 : decode cX5_brokenByWish 7 = .ok (.aload_n 0, 1) := by decide +kernel
theorem dX5_brokenByWish_8 : decode cX5_brokenByWish 8 = .ok (.getfield 9, 3) := by decide +kernel
theorem dX5_brokenByWish_11 : decode cX5_brokenByWish 11 = .ok (.iload_n 1, 1) := by decide +kernel
theorem dX5_brokenByWish_12 : decode cX5_brokenByWish 12 = .ok (.iaload, 1) := by decide +kernel
theorem dX5_brokenByWish_13 : decode cX5_brokenByWish 13 = .ok (.aload_n 0, 1) := by decide +kernel
theorem dX5_brokenByWish_14 : decode cX5_brokenByWish 14 = .ok (.getfield 9, 3) := by decide +kernel
theorem dX5_brokenByWish_17 : decode cX5_brokenByWish 17 = .ok (.iload_n 1, 1) := by decide +kernel
theorem dX5_brokenByWish_18 : decode cX5_brokenByWish 18 = .ok (.iaload, 1) := by decide +kernel
theorem dX5_brokenByWish_19 : decode cX5_brokenByWish 19 = .ok (.iload_n 2, 1) := by decide +kernel
theorem dX5_brokenByWish_20 : decode cX5_brokenByWish 20 = .ok (.aload_n 0, 1) := by decide +kernel
theorem dX5_brokenByWish_21 : decode cX5_brokenByWish 21 = .ok (.getfield 15, 3) := by decide +kernel
theorem dX5_brokenByWish_24 : decode cX5_brokenByWish 24 = .ok (.iload_n 1, 1) := by decide +kernel
theorem dX5_brokenByWish_25 : decode cX5_brokenByWish 25 = .ok (.iaload, 1) := by decide +kernel
theorem dX5_brokenByWish_26 : decode cX5_brokenByWish 26 = .ok (.iload_n 2, 1) := by decide +kernel
theorem dX5_brokenByWish_27 : decode cX5_brokenByWish 27 = .ok (.invokestatic 77, 3) := by decide +kernel
theorem dX5_brokenByWish_30 : decode cX5_brokenByWish 30 = .ok (.invokestatic 128, 3) := by decide +kernel
theorem dX5_brokenByWish_33 : decode cX5_brokenByWish 33 = .ok (.invokevirtual 132, 3) := by decide +kernel
theorem dX5_brokenByWish_36 : decode cX5_brokenByWish 36 = .ok (.ireturn, 1) := by decide +kernel
theorem dX5_readyOn_0 : decode cX5_readyOn 0 = .ok (.iconst 0, 1) := by decide +kernel
theorem dX5_readyOn_1 : decode cX5_readyOn 1 = .ok (.istore_n 2, 1) := by decide +kernel
theorem dX5_readyOn_2 : decode cX5_readyOn 2 = .ok (.iload_n 2, 1) := by decide +kernel
theorem dX5_readyOn_3 : decode cX5_readyOn 3 = .ok (.aload_n 0, 1) := by decide +kernel
theorem dX5_readyOn_4 : decode cX5_readyOn 4 = .ok (.getfield 33, 3) := by decide +kernel
theorem dX5_readyOn_7 : decode cX5_readyOn 7 = .ok (.getfield 61, 3) := by decide +kernel
theorem dX5_readyOn_10 : decode cX5_readyOn 10 = .ok (.if_icmp .ge 20, 3) := by decide +kernel
theorem dX5_readyOn_13 : decode cX5_readyOn 13 = .ok (.aload_n 0, 1) := by decide +kernel
theorem dX5_readyOn_14 : decode cX5_readyOn 14 = .ok (.iload_n 1, 1) := by decide +kernel
theorem dX5_readyOn_15 : decode cX5_readyOn 15 = .ok (.iload_n 2, 1) := by decide +kernel
theorem dX5_readyOn_16 : decode cX5_readyOn 16 = .ok (.invokevirtual 135, 3) := by decide +kernel
theorem dX5_readyOn_19 : decode cX5_readyOn 19 = .ok (.ifCond .ne 5, 3) := by decide +kernel
theorem dX5_readyOn_22 : decode cX5_readyOn 22 = .ok (.iload_n 2, 1) := by decide +kernel
theorem dX5_readyOn_23 : decode cX5_readyOn 23 = .ok (.ireturn, 1) := by decide +kernel
theorem dX5_readyOn_24 : decode cX5_readyOn 24 = .ok (.iinc 2 1, 3) := by decide +kernel
theorem dX5_readyOn_27 : decode cX5_readyOn 27 = .ok (.goto (-25), 3) := by decide +kernel
theorem dX5_readyOn_30 : decode cX5_readyOn 30 = .ok (.bipush (-9), 2) := by decide +kernel
theorem dX5_readyOn_32 : decode cX5_readyOn 32 = .ok (.ireturn, 1) := by decide +kernel
theorem dX5_passTicks_0 : decode cX5_passTicks 0 = .ok (.iconst 0, 1) := by decide +kernel
theorem dX5_passTicks_1 : decode cX5_passTicks 1 = .ok (.istore_n 2, 1) := by decide +kernel
theorem dX5_passTicks_2 : decode cX5_passTicks 2 = .ok (.iload_n 2, 1) := by decide +kernel
theorem dX5_passTicks_3 : decode cX5_passTicks 3 = .ok (.iload_n 1, 1) := by decide +kernel
theorem dX5_passTicks_4 : decode cX5_passTicks 4 = .ok (.if_icmp .ge 59, 3) := by decide +kernel
theorem dX5_passTicks_7 : decode cX5_passTicks 7 = .ok (.aload_n 0, 1) := by decide +kernel
theorem dX5_passTicks_8 : decode cX5_passTicks 8 = .ok (.dup, 1) := by decide +kernel
theorem dX5_passTicks_9 : decode cX5_passTicks 9 = .ok (.getfield 43, 3) := by decide +kernel
theorem dX5_passTicks_12 : decode cX5_passTicks 12 = .ok (.iconst 1, 1) := by decide +kernel
theorem dX5_passTicks_13 : decode cX5_passTicks 13 = .ok (.iadd, 1) := by decide +kernel
theorem dX5_passTicks_14 : decode cX5_passTicks 14 = .ok (.putfield 43, 3) := by decide +kernel
theorem dX5_passTicks_17 : decode cX5_passTicks 17 = .ok (.iconst 0, 1) := by decide +kernel
theorem dX5_passTicks_18 : decode cX5_passTicks 18 = .ok (.istore_n 3, 1) := by decide +kernel
theorem dX5_passTicks_19 : decode cX5_passTicks 19 = .ok (.iload_n 3, 1) := by decide +kernel
theorem dX5_passTicks_20 : decode cX5_passTicks 20 = .ok (.aload_n 0, 1) := by decide +kernel
theorem dX5_passTicks_21 : decode cX5_passTicks 21 = .ok (.getfield 33, 3) := by decide +kernel
theorem dX5_passTicks_24 : decode cX5_passTicks 24 = .ok (.getfield 70, 3) := by decide +kernel
theorem dX5_passTicks_27 : decode cX5_passTicks 27 = .ok (.if_icmp .ge 30, 3) := by decide +kernel
theorem dX5_passTicks_30 : decode cX5_passTicks 30 = .ok (.aload_n 0, 1) := by decide +kernel
theorem dX5_passTicks_31 : decode cX5_passTicks 31 = .ok (.iload_n 3, 1) := by decide +kernel
theorem dX5_passTicks_32 : decode cX5_passTicks 32 = .ok (.invokevirtual 138, 3) := by decide +kernel
theorem dX5_passTicks_35 : decode cX5_passTicks 35 = .ok (.istore 4, 2) := by decide +kernel
theorem dX5_passTicks_37 : decode cX5_passTicks 37 = .ok (.iload 4, 2) := by decide +kernel
theorem dX5_passTicks_39 : decode cX5_passTicks 39 = .ok (.bipush (-9), 2) := by decide +kernel
theorem dX5_passTicks_41 : decode cX5_passTicks 41 = .ok (.if_icmp .eq 10, 3) := by decide +kernel
theorem dX5_passTicks_44 : decode cX5_passTicks 44 = .ok (.aload_n 0, 1) := by decide +kernel
theorem dX5_passTicks_45 : decode cX5_passTicks 45 = .ok (.iload_n 3, 1) := by decide +kernel
theorem dX5_passTicks_46 : decode cX5_passTicks 46 = .ok (.iload 4, 2) := by decide +kernel
theorem dX5_passTicks_48 : decode cX5_passTicks 48 = .ok (.invokevirtual 141, 3) := by decide +kernel
theorem dX5_passTicks_51 : decode cX5_passTicks 51 = .ok (.iinc 3 1, 3) := by decide +kernel
theorem dX5_passTicks_54 : decode cX5_passTicks 54 = .ok (.goto (-35), 3) := by decide +kernel
theorem dX5_passTicks_57 : decode cX5_passTicks 57 = .ok (.iinc 2 1, 3) := by decide +kernel
theorem dX5_passTicks_60 : decode cX5_passTicks 60 = .ok (.goto (-58), 3) := by decide +kernel
theorem dX5_passTicks_63 : decode cX5_passTicks 63 = .ok (.return_, 1) := by decide +kernel
theorem dX5_attempt_0 : decode cX5_attempt 0 = .ok (.aload_n 0, 1) := by decide +kernel
theorem dX5_attempt_1 : decode cX5_attempt 1 = .ok (.getfield 18, 3) := by decide +kernel
theorem dX5_attempt_4 : decode cX5_attempt 4 = .ok (.iload_n 1, 1) := by decide +kernel
theorem dX5_attempt_5 : decode cX5_attempt 5 = .ok (.iaload, 1) := by decide +kernel
theorem dX5_attempt_6 : decode cX5_attempt 6 = .ok (.ifCond .ne 47, 3) := by decide +kernel
theorem dX5_attempt_9 : decode cX5_attempt 9 = .ok (.aload_n 0, 1) := by decide +kernel
theorem dX5_attempt_10 : decode cX5_attempt 10 = .ok (.getfield 9, 3) := by decide +kernel
theorem dX5_attempt_13 : decode cX5_attempt 13 = .ok (.iload_n 1, 1) := by decide +kernel
theorem dX5_attempt_14 : decode cX5_attempt 14 = .ok (.aload_n 0, 1) := by decide +kernel
theorem dX5_attempt_15 : decode cX5_attempt 15 = .ok (.getfield 9, 3) := by decide +kernel
theorem dX5_attempt_18 : decode cX5_attempt 18 = .ok (.iload_n 1, 1) := by decide +kernel
theorem dX5_attempt_19 : decode cX5_attempt 19 = .ok (.iaload, 1) := by decide +kernel
theorem dX5_attempt_20 : decode cX5_attempt 20 = .ok (.iload_n 2, 1) := by decide +kernel
theorem dX5_attempt_21 : decode cX5_attempt 21 = .ok (.aload_n 0, 1) := by decide +kernel
theorem dX5_attempt_22 : decode cX5_attempt 22 = .ok (.getfield 15, 3) := by decide +kernel
theorem dX5_attempt_25 : decode cX5_attempt 25 = .ok (.iload_n 1, 1) := by decide +kernel
theorem dX5_attempt_26 : decode cX5_attempt 26 = .ok (.iaload, 1) := by decide +kernel
theorem dX5_attempt_27 : decode cX5_attempt 27 = .ok (.iload_n 2, 1) := by decide +kernel
theorem dX5_attempt_28 : decode cX5_attempt 28 = .ok (.invokestatic 77, 3) := by decide +kernel
theorem dX5_attempt_31 : decode cX5_attempt 31 = .ok (.invokestatic 128, 3) := by decide +kernel
theorem dX5_attempt_34 : decode cX5_attempt 34 = .ok (.iastore, 1) := by decide +kernel
theorem dX5_attempt_35 : decode cX5_attempt 35 = .ok (.aload_n 0, 1) := by decide +kernel
theorem dX5_attempt_36 : decode cX5_attempt 36 = .ok (.getfield 21, 3) := by decide +kernel
theorem dX5_attempt_39 : decode cX5_attempt 39 = .ok (.iload_n 1, 1) := by decide +kernel
theorem dX5_attempt_40 : decode cX5_attempt 40 = .ok (.iconst 0, 1) := by decide +kernel
theorem dX5_attempt_41 : decode cX5_attempt 41 = .ok (.iastore, 1) := by decide +kernel
theorem dX5_attempt_42 : decode cX5_attempt 42 = .ok (.aload_n 0, 1) := by decide +kernel
theorem dX5_attempt_43 : decode cX5_attempt 43 = .ok (.dup, 1) := by decide +kernel
theorem dX5_attempt_44 : decode cX5_attempt 44 = .ok (.getfield 47, 3) := by decide +kernel
theorem dX5_attempt_47 : decode cX5_attempt 47 = .ok (.iconst 1, 1) := by decide +kernel
theorem dX5_attempt_48 : decode cX5_attempt 48 = .ok (.iadd, 1) := by decide +kernel
theorem dX5_attempt_49 : decode cX5_attempt 49 = .ok (.putfield 47, 3) := by decide +kernel
theorem dX5_attempt_52 : decode cX5_attempt 52 = .ok (.return_, 1) := by decide +kernel
theorem dX5_attempt_53 : decode cX5_attempt 53 = .ok (.aload_n 0, 1) := by decide +kernel
theorem dX5_attempt_54 : decode cX5_attempt 54 = .ok (.getfield 18, 3) := by decide +kernel
theorem dX5_attempt_57 : decode cX5_attempt 57 = .ok (.iload_n 1, 1) := by decide +kernel
theorem dX5_attempt_58 : decode cX5_attempt 58 = .ok (.dup2, 1) := by decide +kernel
theorem dX5_attempt_59 : decode cX5_attempt 59 = .ok (.iaload, 1) := by decide +kernel
theorem dX5_attempt_60 : decode cX5_attempt 60 = .ok (.iconst 1, 1) := by decide +kernel
theorem dX5_attempt_61 : decode cX5_attempt 61 = .ok (.isub, 1) := by decide +kernel
theorem dX5_attempt_62 : decode cX5_attempt 62 = .ok (.iastore, 1) := by decide +kernel
theorem dX5_attempt_63 : decode cX5_attempt 63 = .ok (.aload_n 0, 1) := by decide +kernel
theorem dX5_attempt_64 : decode cX5_attempt 64 = .ok (.getfield 21, 3) := by decide +kernel
theorem dX5_attempt_67 : decode cX5_attempt 67 = .ok (.iload_n 1, 1) := by decide +kernel
theorem dX5_attempt_68 : decode cX5_attempt 68 = .ok (.dup2, 1) := by decide +kernel
theorem dX5_attempt_69 : decode cX5_attempt 69 = .ok (.iaload, 1) := by decide +kernel
theorem dX5_attempt_70 : decode cX5_attempt 70 = .ok (.iconst 1, 1) := by decide +kernel
theorem dX5_attempt_71 : decode cX5_attempt 71 = .ok (.iadd, 1) := by decide +kernel
theorem dX5_attempt_72 : decode cX5_attempt 72 = .ok (.iastore, 1) := by decide +kernel
theorem dX5_attempt_73 : decode cX5_attempt 73 = .ok (.aload_n 0, 1) := by decide +kernel
theorem dX5_attempt_74 : decode cX5_attempt 74 = .ok (.getfield 21, 3) := by decide +kernel
theorem dX5_attempt_77 : decode cX5_attempt 77 = .ok (.iload_n 1, 1) := by decide +kernel
theorem dX5_attempt_78 : decode cX5_attempt 78 = .ok (.iaload, 1) := by decide +kernel
theorem dX5_attempt_79 : decode cX5_attempt 79 = .ok (.aload_n 0, 1) := by decide +kernel
theorem dX5_attempt_80 : decode cX5_attempt 80 = .ok (.getfield 33, 3) := by decide +kernel
theorem dX5_attempt_83 : decode cX5_attempt 83 = .ok (.getfield 145, 3) := by decide +kernel
theorem dX5_attempt_86 : decode cX5_attempt 86 = .ok (.if_icmp .ne 28, 3) := by decide +kernel
theorem dX5_attempt_89 : decode cX5_attempt 89 = .ok (.aload_n 0, 1) := by decide +kernel
theorem dX5_attempt_90 : decode cX5_attempt 90 = .ok (.getfield 21, 3) := by decide +kernel
theorem dX5_attempt_93 : decode cX5_attempt 93 = .ok (.iload_n 1, 1) := by decide +kernel
theorem dX5_attempt_94 : decode cX5_attempt 94 = .ok (.iconst 0, 1) := by decide +kernel
theorem dX5_attempt_95 : decode cX5_attempt 95 = .ok (.iastore, 1) := by decide +kernel
theorem dX5_attempt_96 : decode cX5_attempt 96 = .ok (.aload_n 0, 1) := by decide +kernel
theorem dX5_attempt_97 : decode cX5_attempt 97 = .ok (.getfield 24, 3) := by decide +kernel
theorem dX5_attempt_100 : decode cX5_attempt 100 = .ok (.iload_n 1, 1) := by decide +kernel
theorem dX5_attempt_101 : decode cX5_attempt 101 = .ok (.aload_n 0, 1) := by decide +kernel
theorem dX5_attempt_102 : decode cX5_attempt 102 = .ok (.getfield 43, 3) := by decide +kernel
theorem dX5_attempt_105 : decode cX5_attempt 105 = .ok (.aload_n 0, 1) := by decide +kernel
theorem dX5_attempt_106 : decode cX5_attempt 106 = .ok (.getfield 33, 3) := by decide +kernel
theorem dX5_attempt_109 : decode cX5_attempt 109 = .ok (.getfield 148, 3) := by decide +kernel
theorem dX5_attempt_112 : decode cX5_attempt 112 = .ok (.iadd, 1) := by decide +kernel
theorem dX5_attempt_113 : decode cX5_attempt 113 = .ok (.iastore, 1) := by decide +kernel
theorem dX5_attempt_114 : decode cX5_attempt 114 = .ok (.return_, 1) := by decide +kernel
theorem dX5_pairsHeldUpBy_0 : decode cX5_pairsHeldUpBy 0 = .ok (.iconst 0, 1) := by decide +kernel
theorem dX5_pairsHeldUpBy_1 : decode cX5_pairsHeldUpBy 1 = .ok (.istore_n 2, 1) := by decide +kernel
theorem dX5_pairsHeldUpBy_2 : decode cX5_pairsHeldUpBy 2 = .ok (.iconst 0, 1) := by decide +kernel
theorem dX5_pairsHeldUpBy_3 : decode cX5_pairsHeldUpBy 3 = .ok (.istore_n 3, 1) := by decide +kernel
theorem dX5_pairsHeldUpBy_4 : decode cX5_pairsHeldUpBy 4 = .ok (.iload_n 3, 1) := by decide +kernel
theorem dX5_pairsHeldUpBy_5 : decode cX5_pairsHeldUpBy 5 = .ok (.aload_n 0, 1) := by decide +kernel
theorem dX5_pairsHeldUpBy_6 : decode cX5_pairsHeldUpBy 6 = .ok (.getfield 33, 3) := by decide +kernel
theorem dX5_pairsHeldUpBy_9 : decode cX5_pairsHeldUpBy 9 = .ok (.getfield 70, 3) := by decide +kernel
theorem dX5_pairsHeldUpBy_12 : decode cX5_pairsHeldUpBy 12 = .ok (.if_icmp .ge 57, 3) := by decide +kernel
theorem dX5_pairsHeldUpBy_15 : decode cX5_pairsHeldUpBy 15 = .ok (.iconst 0, 1) := by decide +kernel
theorem dX5_pairsHeldUpBy_16 : decode cX5_pairsHeldUpBy 16 = .ok (.istore 4, 2) := by decide +kernel
theorem dX5_pairsHeldUpBy_18 : decode cX5_pairsHeldUpBy 18 = .ok (.iload 4, 2) := by decide +kernel
theorem dX5_pairsHeldUpBy_20 : decode cX5_pairsHeldUpBy 20 = .ok (.aload_n 0, 1) := by decide +kernel
theorem dX5_pairsHeldUpBy_21 : decode cX5_pairsHeldUpBy 21 = .ok (.getfield 33, 3) := by decide +kernel
theorem dX5_pairsHeldUpBy_24 : decode cX5_pairsHeldUpBy 24 = .ok (.getfield 61, 3) := by decide +kernel
theorem dX5_pairsHeldUpBy_27 : decode cX5_pairsHeldUpBy 27 = .ok (.if_icmp .ge 36, 3) := by decide +kernel
theorem dX5_pairsHeldUpBy_30 : decode cX5_pairsHeldUpBy 30 = .ok (.aload_n 0, 1) := by decide +kernel
theorem dX5_pairsHeldUpBy_31 : decode cX5_pairsHeldUpBy 31 = .ok (.iload_n 3, 1) := by decide +kernel
theorem dX5_pairsHeldUpBy_32 : decode cX5_pairsHeldUpBy 32 = .ok (.iload 4, 2) := by decide +kernel
theorem dX5_pairsHeldUpBy_34 : decode cX5_pairsHeldUpBy 34 = .ok (.invokevirtual 135, 3) := by decide +kernel
theorem dX5_pairsHeldUpBy_37 : decode cX5_pairsHeldUpBy 37 = .ok (.iconst 5, 1) := by decide +kernel
theorem dX5_pairsHeldUpBy_38 : decode cX5_pairsHeldUpBy 38 = .ok (.if_icmp .ne 19, 3) := by decide +kernel
theorem dX5_pairsHeldUpBy_41 : decode cX5_pairsHeldUpBy 41 = .ok (.aload_n 0, 1) := by decide +kernel
theorem dX5_pairsHeldUpBy_42 : decode cX5_pairsHeldUpBy 42 = .ok (.iload_n 3, 1) := by decide +kernel
theorem dX5_pairsHeldUpBy_43 : decode cX5_pairsHeldUpBy 43 = .ok (.iload 4, 2) := by decide +kernel
theorem dX5_pairsHeldUpBy_45 : decode cX5_pairsHeldUpBy 45 = .ok (.invokevirtual 112, 3) := by decide +kernel
theorem dX5_pairsHeldUpBy_48 : decode cX5_pairsHeldUpBy 48 = .ok (.iconst 1, 1) := by decide +kernel
theorem dX5_pairsHeldUpBy_49 : decode cX5_pairsHeldUpBy 49 = .ok (.iload_n 1, 1) := by decide +kernel
theorem dX5_pairsHeldUpBy_50 : decode cX5_pairsHeldUpBy 50 = .ok (.ishl, 1) := by decide +kernel
theorem dX5_pairsHeldUpBy_51 : decode cX5_pairsHeldUpBy 51 = .ok (.if_icmp .ne 6, 3) := by decide +kernel
theorem dX5_pairsHeldUpBy_54 : decode cX5_pairsHeldUpBy 54 = .ok (.iinc 2 1, 3) := by decide +kernel
theorem dX5_pairsHeldUpBy_57 : decode cX5_pairsHeldUpBy 57 = .ok (.iinc 4 1, 3) := by decide +kernel
theorem dX5_pairsHeldUpBy_60 : decode cX5_pairsHeldUpBy 60 = .ok (.goto (-42), 3) := by decide +kernel
theorem dX5_pairsHeldUpBy_63 : decode cX5_pairsHeldUpBy 63 = .ok (.iinc 3 1, 3) := by decide +kernel
theorem dX5_pairsHeldUpBy_66 : decode cX5_pairsHeldUpBy 66 = .ok (.goto (-62), 3) := by decide +kernel
theorem dX5_pairsHeldUpBy_69 : decode cX5_pairsHeldUpBy 69 = .ok (.iload_n 2, 1) := by decide +kernel
theorem dX5_pairsHeldUpBy_70 : decode cX5_pairsHeldUpBy 70 = .ok (.ireturn, 1) := by decide +kernel
theorem dX5_missingApprovals_0 : decode cX5_missingApprovals 0 = .ok (.iconst 0, 1) := by decide +kernel
theorem dX5_missingApprovals_1 : decode cX5_missingApprovals 1 = .ok (.istore_n 2, 1) := by decide +kernel
theorem dX5_missingApprovals_2 : decode cX5_missingApprovals 2 = .ok (.iconst 0, 1) := by decide +kernel
theorem dX5_missingApprovals_3 : decode cX5_missingApprovals 3 = .ok (.istore_n 3, 1) := by decide +kernel
theorem dX5_missingApprovals_4 : decode cX5_missingApprovals 4 = .ok (.iload_n 3, 1) := by decide +kernel
theorem dX5_missingApprovals_5 : decode cX5_missingApprovals 5 = .ok (.iconst 4, 1) := by decide +kernel
theorem dX5_missingApprovals_6 : decode cX5_missingApprovals 6 = .ok (.if_icmp .ge 27, 3) := by decide +kernel
theorem dX5_missingApprovals_9 : decode cX5_missingApprovals 9 = .ok (.aload_n 0, 1) := by decide +kernel
theorem dX5_missingApprovals_10 : decode cX5_missingApprovals 10 = .ok (.iload_n 1, 1) := by decide +kernel
theorem dX5_missingApprovals_11 : decode cX5_missingApprovals 11 = .ok (.iload_n 3, 1) := by decide +kernel
theorem dX5_missingApprovals_12 : decode cX5_missingApprovals 12 = .ok (.invokevirtual 151, 3) := by decide +kernel
theorem dX5_missingApprovals_15 : decode cX5_missingApprovals 15 = .ok (.ifCond .eq 12, 3) := by decide +kernel
theorem dX5_missingApprovals_18 : decode cX5_missingApprovals 18 = .ok (.iload_n 2, 1) := by decide +kernel
theorem dX5_missingApprovals_19 : decode cX5_missingApprovals 19 = .ok (.aload_n 0, 1) := by decide +kernel
theorem dX5_missingApprovals_20 : decode cX5_missingApprovals 20 = .ok (.iload_n 1, 1) := by decide +kernel
theorem dX5_missingApprovals_21 : decode cX5_missingApprovals 21 = .ok (.iload_n 3, 1) := by decide +kernel
theorem dX5_missingApprovals_22 : decode cX5_missingApprovals 22 = .ok (.invokevirtual 106, 3) := by decide +kernel
theorem dX5_missingApprovals_25 : decode cX5_missingApprovals 25 = .ok (.iadd, 1) := by decide +kernel
theorem dX5_missingApprovals_26 : decode cX5_missingApprovals 26 = .ok (.istore_n 2, 1) := by decide +kernel
theorem dX5_missingApprovals_27 : decode cX5_missingApprovals 27 = .ok (.iinc 3 1, 3) := by decide +kernel
theorem dX5_missingApprovals_30 : decode cX5_missingApprovals 30 = .ok (.goto (-26), 3) := by decide +kernel
theorem dX5_missingApprovals_33 : decode cX5_missingApprovals 33 = .ok (.iload_n 2, 1) := by decide +kernel
theorem dX5_missingApprovals_34 : decode cX5_missingApprovals 34 = .ok (.ireturn, 1) := by decide +kernel
theorem dX5_isAwaited_0 : decode cX5_isAwaited 0 = .ok (.iconst 0, 1) := by decide +kernel
theorem dX5_isAwaited_1 : decode cX5_isAwaited 1 = .ok (.istore_n 3, 1) := by decide +kernel
theorem dX5_isAwaited_2 : decode cX5_isAwaited 2 = .ok (.iload_n 3, 1) := by decide +kernel
theorem dX5_isAwaited_3 : decode cX5_isAwaited 3 = .ok (.aload_n 0, 1) := by decide +kernel
theorem dX5_isAwaited_4 : decode cX5_isAwaited 4 = .ok (.getfield 33, 3) := by decide +kernel
theorem dX5_isAwaited_7 : decode cX5_isAwaited 7 = .ok (.getfield 70, 3) := by decide +kernel
theorem dX5_isAwaited_10 : decode cX5_isAwaited 10 = .ok (.if_icmp .ge 34, 3) := by decide +kernel
theorem dX5_isAwaited_13 : decode cX5_isAwaited 13 = .ok (.aload_n 0, 1) := by decide +kernel
theorem dX5_isAwaited_14 : decode cX5_isAwaited 14 = .ok (.iload_n 3, 1) := by decide +kernel
theorem dX5_isAwaited_15 : decode cX5_isAwaited 15 = .ok (.iload_n 1, 1) := by decide +kernel
theorem dX5_isAwaited_16 : decode cX5_isAwaited 16 = .ok (.invokevirtual 66, 3) := by decide +kernel
theorem dX5_isAwaited_19 : decode cX5_isAwaited 19 = .ok (.ifCond .eq 19, 3) := by decide +kernel
theorem dX5_isAwaited_22 : decode cX5_isAwaited 22 = .ok (.aload_n 0, 1) := by decide +kernel
theorem dX5_isAwaited_23 : decode cX5_isAwaited 23 = .ok (.getfield 15, 3) := by decide +kernel
theorem dX5_isAwaited_26 : decode cX5_isAwaited 26 = .ok (.iload_n 3, 1) := by decide +kernel
theorem dX5_isAwaited_27 : decode cX5_isAwaited 27 = .ok (.iaload, 1) := by decide +kernel
theorem dX5_isAwaited_28 : decode cX5_isAwaited 28 = .ok (.iload_n 1, 1) := by decide +kernel
theorem dX5_isAwaited_29 : decode cX5_isAwaited 29 = .ok (.invokestatic 77, 3) := by decide +kernel
theorem dX5_isAwaited_32 : decode cX5_isAwaited 32 = .ok (.iload_n 2, 1) := by decide +kernel
theorem dX5_isAwaited_33 : decode cX5_isAwaited 33 = .ok (.if_icmp .ne 5, 3) := by decide +kernel
theorem dX5_isAwaited_36 : decode cX5_isAwaited 36 = .ok (.iconst 1, 1) := by decide +kernel
theorem dX5_isAwaited_37 : decode cX5_isAwaited 37 = .ok (.ireturn, 1) := by decide +kernel
theorem dX5_isAwaited_38 : decode cX5_isAwaited 38 = .ok (.iinc 3 1, 3) := by decide +kernel
theorem dX5_isAwaited_41 : decode cX5_isAwaited 41 = .ok (.goto (-39), 3) := by decide +kernel
theorem dX5_isAwaited_44 : decode cX5_isAwaited 44 = .ok (.iconst 0, 1) := by decide +kernel
theorem dX5_isAwaited_45 : decode cX5_isAwaited 45 = .ok (.ireturn, 1) := by decide +kernel
theorem dX5_changesTo_0 : decode cX5_changesTo 0 = .ok (.iload_n 2, 1) := by decide +kernel
theorem dX5_changesTo_1 : decode cX5_changesTo 1 = .ok (.aload_n 0, 1) := by decide +kernel
theorem dX5_changesTo_2 : decode cX5_changesTo 2 = .ok (.iload_n 1, 1) := by decide +kernel
theorem dX5_changesTo_3 : decode cX5_changesTo 3 = .ok (.invokevirtual 103, 3) := by decide +kernel
theorem dX5_changesTo_6 : decode cX5_changesTo 6 = .ok (.isub, 1) := by decide +kernel
theorem dX5_changesTo_7 : decode cX5_changesTo 7 = .ok (.istore_n 3, 1) := by decide +kernel
theorem dX5_changesTo_8 : decode cX5_changesTo 8 = .ok (.iconst 0, 1) := by decide +kernel
theorem dX5_changesTo_9 : decode cX5_changesTo 9 = .ok (.istore 4, 2) := by decide +kernel
theorem dX5_changesTo_11 : decode cX5_changesTo 11 = .ok (.iconst 0, 1) := by decide +kernel
theorem dX5_changesTo_12 : decode cX5_changesTo 12 = .ok (.istore 5, 2) := by decide +kernel
theorem dX5_changesTo_14 : decode cX5_changesTo 14 = .ok (.iload 5, 2) := by decide +kernel
theorem dX5_changesTo_16 : decode cX5_changesTo 16 = .ok (.aload_n 0, 1) := by decide +kernel
theorem dX5_changesTo_17 : decode cX5_changesTo 17 = .ok (.getfield 33, 3) := by decide +kernel
theorem dX5_changesTo_20 : decode cX5_changesTo 20 = .ok (.getfield 61, 3) := by decide +kernel
theorem dX5_changesTo_23 : decode cX5_changesTo 23 = .ok (.if_icmp .ge 72, 3) := by decide +kernel
theorem dX5_changesTo_26 : decode cX5_changesTo 26 = .ok (.aload_n 0, 1) := by decide +kernel
theorem dX5_changesTo_27 : decode cX5_changesTo 27 = .ok (.getfield 9, 3) := by decide +kernel
theorem dX5_changesTo_30 : decode cX5_changesTo 30 = .ok (.iload_n 1, 1) := by decide +kernel
theorem dX5_changesTo_31 : decode cX5_changesTo 31 = .ok (.iaload, 1) := by decide +kernel
theorem dX5_changesTo_32 : decode cX5_changesTo 32 = .ok (.iload 5, 2) := by decide +kernel
theorem dX5_changesTo_34 : decode cX5_changesTo 34 = .ok (.invokestatic 77, 3) := by decide +kernel
theorem dX5_changesTo_37 : decode cX5_changesTo 37 = .ok (.istore 6, 2) := by decide +kernel
theorem dX5_changesTo_39 : decode cX5_changesTo 39 = .ok (.iconst 0, 1) := by decide +kernel
theorem dX5_changesTo_40 : decode cX5_changesTo 40 = .ok (.istore 7, 2) := by decide +kernel
theorem dX5_changesTo_42 : decode cX5_changesTo 42 = .ok (.iload 7, 2) := by decide +kernel
theorem dX5_changesTo_44 : decode cX5_changesTo 44 = .ok (.iconst 4, 1) := by decide +kernel
theorem dX5_changesTo_45 : decode cX5_changesTo 45 = .ok (.if_icmp .ge 44, 3) := by decide +kernel
theorem dX5_changesTo_48 : decode cX5_changesTo 48 = .ok (.iload 7, 2) := by decide +kernel
theorem dX5_changesTo_50 : decode cX5_changesTo 50 = .ok (.iload 6, 2) := by decide +kernel
theorem dX5_changesTo_52 : decode cX5_changesTo 52 = .ok (.if_icmp .eq 31, 3) := by decide +kernel
theorem dX5_changesTo_55 : decode cX5_changesTo 55 = .ok (.iload 5, 2) := by decide +kernel
theorem dX5_changesTo_57 : decode cX5_changesTo 57 = .ok (.iconst 1, 1) := by decide +kernel
theorem dX5_changesTo_58 : decode cX5_changesTo 58 = .ok (.iadd, 1) := by decide +kernel
theorem dX5_changesTo_59 : decode cX5_changesTo 59 = .ok (.iload 7, 2) := by decide +kernel
theorem dX5_changesTo_61 : decode cX5_changesTo 61 = .ok (.iload 6, 2) := by decide +kernel
theorem dX5_changesTo_63 : decode cX5_changesTo 63 = .ok (.isub, 1) := by decide +kernel
theorem dX5_changesTo_64 : decode cX5_changesTo 64 = .ok (.imul, 1) := by decide +kernel
theorem dX5_changesTo_65 : decode cX5_changesTo 65 = .ok (.iload_n 3, 1) := by decide +kernel
theorem dX5_changesTo_66 : decode cX5_changesTo 66 = .ok (.if_icmp .ne 17, 3) := by decide +kernel
theorem dX5_changesTo_69 : decode cX5_changesTo 69 = .ok (.iload 4, 2) := by decide +kernel
theorem dX5_changesTo_71 : decode cX5_changesTo 71 = .ok (.iconst 1, 1) := by decide +kernel
theorem dX5_changesTo_72 : decode cX5_changesTo 72 = .ok (.iload 5, 2) := by decide +kernel
theorem dX5_changesTo_74 : decode cX5_changesTo 74 = .ok (.iload 7, 2) := by decide +kernel
theorem dX5_changesTo_76 : decode cX5_changesTo 76 = .ok (.invokestatic 115, 3) := by decide +kernel
theorem dX5_changesTo_79 : decode cX5_changesTo 79 = .ok (.ishl, 1) := by decide +kernel
theorem dX5_changesTo_80 : decode cX5_changesTo 80 = .ok (.ior, 1) := by decide +kernel
theorem dX5_changesTo_81 : decode cX5_changesTo 81 = .ok (.istore 4, 2) := by decide +kernel
theorem dX5_changesTo_83 : decode cX5_changesTo 83 = .ok (.iinc 7 1, 3) := by decide +kernel
theorem dX5_changesTo_86 : decode cX5_changesTo 86 = .ok (.goto (-44), 3) := by decide +kernel
theorem dX5_changesTo_89 : decode cX5_changesTo 89 = .ok (.iinc 5 1, 3) := by decide +kernel
theorem dX5_changesTo_92 : decode cX5_changesTo 92 = .ok (.goto (-78), 3) := by decide +kernel
theorem dX5_changesTo_95 : decode cX5_changesTo 95 = .ok (.iload 4, 2) := by decide +kernel
theorem dX5_changesTo_97 : decode cX5_changesTo 97 = .ok (.ireturn, 1) := by decide +kernel
theorem dX5_rankOf_0 : decode cX5_rankOf 0 = .ok (.iconst 0, 1) := by decide +kernel
theorem dX5_rankOf_1 : decode cX5_rankOf 1 = .ok (.istore_n 2, 1) := by decide +kernel
theorem dX5_rankOf_2 : decode cX5_rankOf 2 = .ok (.iconst 0, 1) := by decide +kernel
theorem dX5_rankOf_3 : decode cX5_rankOf 3 = .ok (.istore_n 3, 1) := by decide +kernel
theorem dX5_rankOf_4 : decode cX5_rankOf 4 = .ok (.iload_n 3, 1) := by decide +kernel
theorem dX5_rankOf_5 : decode cX5_rankOf 5 = .ok (.aload_n 0, 1) := by decide +kernel
theorem dX5_rankOf_6 : decode cX5_rankOf 6 = .ok (.getfield 33, 3) := by decide +kernel
theorem dX5_rankOf_9 : decode cX5_rankOf 9 = .ok (.getfield 70, 3) := by decide +kernel
theorem dX5_rankOf_12 : decode cX5_rankOf 12 = .ok (.if_icmp .ge 21, 3) := by decide +kernel
theorem dX5_rankOf_15 : decode cX5_rankOf 15 = .ok (.aload_n 0, 1) := by decide +kernel
theorem dX5_rankOf_16 : decode cX5_rankOf 16 = .ok (.iload_n 3, 1) := by decide +kernel
theorem dX5_rankOf_17 : decode cX5_rankOf 17 = .ok (.iload_n 1, 1) := by decide +kernel
theorem dX5_rankOf_18 : decode cX5_rankOf 18 = .ok (.invokevirtual 154, 3) := by decide +kernel
theorem dX5_rankOf_21 : decode cX5_rankOf 21 = .ok (.ifCond .eq 6, 3) := by decide +kernel
theorem dX5_rankOf_24 : decode cX5_rankOf 24 = .ok (.iinc 2 1, 3) := by decide +kernel
theorem dX5_rankOf_27 : decode cX5_rankOf 27 = .ok (.iinc 3 1, 3) := by decide +kernel
theorem dX5_rankOf_30 : decode cX5_rankOf 30 = .ok (.goto (-26), 3) := by decide +kernel
theorem dX5_rankOf_33 : decode cX5_rankOf 33 = .ok (.iload_n 2, 1) := by decide +kernel
theorem dX5_rankOf_34 : decode cX5_rankOf 34 = .ok (.ireturn, 1) := by decide +kernel
theorem dX5_isFarther_0 : decode cX5_isFarther 0 = .ok (.aload_n 0, 1) := by decide +kernel
theorem dX5_isFarther_1 : decode cX5_isFarther 1 = .ok (.iload_n 1, 1) := by decide +kernel
theorem dX5_isFarther_2 : decode cX5_isFarther 2 = .ok (.invokevirtual 90, 3) := by decide +kernel
theorem dX5_isFarther_5 : decode cX5_isFarther 5 = .ok (.invokestatic 118, 3) := by decide +kernel
theorem dX5_isFarther_8 : decode cX5_isFarther 8 = .ok (.aload_n 0, 1) := by decide +kernel
theorem dX5_isFarther_9 : decode cX5_isFarther 9 = .ok (.iload_n 2, 1) := by decide +kernel
theorem dX5_isFarther_10 : decode cX5_isFarther 10 = .ok (.invokevirtual 90, 3) := by decide +kernel
theorem dX5_isFarther_13 : decode cX5_isFarther 13 = .ok (.invokestatic 118, 3) := by decide +kernel
theorem dX5_isFarther_16 : decode cX5_isFarther 16 = .ok (.isub, 1) := by decide +kernel
theorem dX5_isFarther_17 : decode cX5_isFarther 17 = .ok (.istore_n 3, 1) := by decide +kernel
theorem dX5_isFarther_18 : decode cX5_isFarther 18 = .ok (.iload_n 3, 1) := by decide +kernel
theorem dX5_isFarther_19 : decode cX5_isFarther 19 = .ok (.ifCond .eq 13, 3) := by decide +kernel
theorem dX5_isFarther_22 : decode cX5_isFarther 22 = .ok (.iload_n 3, 1) := by decide +kernel
theorem dX5_isFarther_23 : decode cX5_isFarther 23 = .ok (.ifCond .le 7, 3) := by decide +kernel
theorem dX5_isFarther_26 : decode cX5_isFarther 26 = .ok (.iconst 1, 1) := by decide +kernel
theorem dX5_isFarther_27 : decode cX5_isFarther 27 = .ok (.goto 4, 3) := by decide +kernel
theorem dX5_isFarther_30 : decode cX5_isFarther 30 = .ok (.iconst 0, 1) := by decide +kernel
theorem dX5_isFarther_31 : decode cX5_isFarther 31 = .ok (.ireturn, 1) := by decide +kernel
theorem dX5_isFarther_32 : decode cX5_isFarther 32 = .ok (.aload_n 0, 1) := by decide +kernel
theorem dX5_isFarther_33 : decode cX5_isFarther 33 = .ok (.getfield 33, 3) := by decide +kernel
theorem dX5_isFarther_36 : decode cX5_isFarther 36 = .ok (.getfield 94, 3) := by decide +kernel
theorem dX5_isFarther_39 : decode cX5_isFarther 39 = .ok (.aload_n 0, 1) := by decide +kernel
theorem dX5_isFarther_40 : decode cX5_isFarther 40 = .ok (.getfield 9, 3) := by decide +kernel
theorem dX5_isFarther_43 : decode cX5_isFarther 43 = .ok (.iload_n 1, 1) := by decide +kernel
theorem dX5_isFarther_44 : decode cX5_isFarther 44 = .ok (.iaload, 1) := by decide +kernel
theorem dX5_isFarther_45 : decode cX5_isFarther 45 = .ok (.invokevirtual 98, 3) := by decide +kernel
theorem dX5_isFarther_48 : decode cX5_isFarther 48 = .ok (.invokestatic 118, 3) := by decide +kernel
theorem dX5_isFarther_51 : decode cX5_isFarther 51 = .ok (.aload_n 0, 1) := by decide +kernel
theorem dX5_isFarther_52 : decode cX5_isFarther 52 = .ok (.getfield 33, 3) := by decide +kernel
theorem dX5_isFarther_55 : decode cX5_isFarther 55 = .ok (.getfield 94, 3) := by decide +kernel
theorem dX5_isFarther_58 : decode cX5_isFarther 58 = .ok (.aload_n 0, 1) := by decide +kernel
theorem dX5_isFarther_59 : decode cX5_isFarther 59 = .ok (.getfield 9, 3) := by decide +kernel
theorem dX5_isFarther_62 : decode cX5_isFarther 62 = .ok (.iload_n 2, 1) := by decide +kernel
theorem dX5_isFarther_63 : decode cX5_isFarther 63 = .ok (.iaload, 1) := by decide +kernel
theorem dX5_isFarther_64 : decode cX5_isFarther 64 = .ok (.invokevirtual 98, 3) := by decide +kernel
theorem dX5_isFarther_67 : decode cX5_isFarther 67 = .ok (.invokestatic 118, 3) := by decide +kernel
theorem dX5_isFarther_70 : decode cX5_isFarther 70 = .ok (.isub, 1) := by decide +kernel
theorem dX5_isFarther_71 : decode cX5_isFarther 71 = .ok (.istore 4, 2) := by decide +kernel
theorem dX5_isFarther_73 : decode cX5_isFarther 73 = .ok (.iload 4, 2) := by decide +kernel
theorem dX5_isFarther_75 : decode cX5_isFarther 75 = .ok (.ifCond .eq 16, 3) := by decide +kernel
theorem dX5_isFarther_78 : decode cX5_isFarther 78 = .ok (.iload 4, 2) := by decide +kernel
theorem dX5_isFarther_80 : decode cX5_isFarther 80 = .ok (.ifCond .le 7, 3) := by decide +kernel
theorem dX5_isFarther_83 : decode cX5_isFarther 83 = .ok (.iconst 1, 1) := by decide +kernel
theorem dX5_isFarther_84 : decode cX5_isFarther 84 = .ok (.goto 17, 3) := by decide +kernel
theorem dX5_isFarther_87 : decode cX5_isFarther 87 = .ok (.iconst 0, 1) := by decide +kernel
theorem dX5_isFarther_88 : decode cX5_isFarther 88 = .ok (.goto 13, 3) := by decide +kernel
theorem dX5_isFarther_91 : decode cX5_isFarther 91 = .ok (.iload_n 1, 1) := by decide +kernel
theorem dX5_isFarther_92 : decode cX5_isFarther 92 = .ok (.iload_n 2, 1) := by decide +kernel
theorem dX5_isFarther_93 : decode cX5_isFarther 93 = .ok (.if_icmp .ge 7, 3) := by decide +kernel
theorem dX5_isFarther_96 : decode cX5_isFarther 96 = .ok (.iconst 1, 1) := by decide +kernel
theorem dX5_isFarther_97 : decode cX5_isFarther 97 = .ok (.goto 4, 3) := by decide +kernel
theorem dX5_isFarther_100 : decode cX5_isFarther 100 = .ok (.iconst 0, 1) := by decide +kernel
theorem dX5_isFarther_101 : decode cX5_isFarther 101 = .ok (.ireturn, 1) := by decide +kernel
theorem dX5_disturb_0 : decode cX5_disturb 0 = .ok (.aload_n 0, 1) := by decide +kernel
theorem dX5_disturb_1 : decode cX5_disturb 1 = .ok (.getfield 33, 3) := by decide +kernel
theorem dX5_disturb_4 : decode cX5_disturb 4 = .ok (.getfield 70, 3) := by decide +kernel
theorem dX5_disturb_7 : decode cX5_disturb 7 = .ok (.ifCond .le 13, 3) := by decide +kernel
theorem dX5_disturb_10 : decode cX5_disturb 10 = .ok (.aload_n 0, 1) := by decide +kernel
theorem dX5_disturb_11 : decode cX5_disturb 11 = .ok (.getfield 33, 3) := by decide +kernel
theorem dX5_disturb_14 : decode cX5_disturb 14 = .ok (.getfield 61, 3) := by decide +kernel
theorem dX5_disturb_17 : decode cX5_disturb 17 = .ok (.ifCond .gt 4, 3) := by decide +kernel
theorem dX5_disturb_20 : decode cX5_disturb 20 = .ok (.return_, 1) := by decide +kernel
theorem dX5_disturb_21 : decode cX5_disturb 21 = .ok (.iload_n 1, 1) := by decide +kernel
theorem dX5_disturb_22 : decode cX5_disturb 22 = .ok (.bipush 64, 2) := by decide +kernel
theorem dX5_disturb_24 : decode cX5_disturb 24 = .ok (.idiv, 1) := by decide +kernel
theorem dX5_disturb_25 : decode cX5_disturb 25 = .ok (.aload_n 0, 1) := by decide +kernel
theorem dX5_disturb_26 : decode cX5_disturb 26 = .ok (.getfield 33, 3) := by decide +kernel
theorem dX5_disturb_29 : decode cX5_disturb 29 = .ok (.getfield 70, 3) := by decide +kernel
theorem dX5_disturb_32 : decode cX5_disturb 32 = .ok (.irem, 1) := by decide +kernel
theorem dX5_disturb_33 : decode cX5_disturb 33 = .ok (.istore_n 2, 1) := by decide +kernel
theorem dX5_disturb_34 : decode cX5_disturb 34 = .ok (.iload_n 1, 1) := by decide +kernel
theorem dX5_disturb_35 : decode cX5_disturb 35 = .ok (.iconst 4, 1) := by decide +kernel
theorem dX5_disturb_36 : decode cX5_disturb 36 = .ok (.idiv, 1) := by decide +kernel
theorem dX5_disturb_37 : decode cX5_disturb 37 = .ok (.aload_n 0, 1) := by decide +kernel
theorem dX5_disturb_38 : decode cX5_disturb 38 = .ok (.getfield 33, 3) := by decide +kernel
theorem dX5_disturb_41 : decode cX5_disturb 41 = .ok (.getfield 61, 3) := by decide +kernel
theorem dX5_disturb_44 : decode cX5_disturb 44 = .ok (.irem, 1) := by decide +kernel
theorem dX5_disturb_45 : decode cX5_disturb 45 = .ok (.istore_n 3, 1) := by decide +kernel
theorem dX5_disturb_46 : decode cX5_disturb 46 = .ok (.iload_n 1, 1) := by decide +kernel
theorem dX5_disturb_47 : decode cX5_disturb 47 = .ok (.iconst 3, 1) := by decide +kernel
theorem dX5_disturb_48 : decode cX5_disturb 48 = .ok (.irem, 1) := by decide +kernel
theorem dX5_disturb_49 : decode cX5_disturb 49 = .ok (.ifCond .ne 29, 3) := by decide +kernel
theorem dX5_disturb_52 : decode cX5_disturb 52 = .ok (.aload_n 0, 1) := by decide +kernel
theorem dX5_disturb_53 : decode cX5_disturb 53 = .ok (.getfield 9, 3) := by decide +kernel
theorem dX5_disturb_56 : decode cX5_disturb 56 = .ok (.iload_n 2, 1) := by decide +kernel
theorem dX5_disturb_57 : decode cX5_disturb 57 = .ok (.aload_n 0, 1) := by decide +kernel
theorem dX5_disturb_58 : decode cX5_disturb 58 = .ok (.getfield 9, 3) := by decide +kernel
theorem dX5_disturb_61 : decode cX5_disturb 61 = .ok (.iload_n 2, 1) := by decide +kernel
theorem dX5_disturb_62 : decode cX5_disturb 62 = .ok (.iaload, 1) := by decide +kernel
theorem dX5_disturb_63 : decode cX5_disturb 63 = .ok (.iload_n 3, 1) := by decide +kernel
theorem dX5_disturb_64 : decode cX5_disturb 64 = .ok (.iload_n 1, 1) := by decide +kernel
theorem dX5_disturb_65 : decode cX5_disturb 65 = .ok (.sipush 1024, 3) := by decide +kernel
theorem dX5_disturb_68 : decode cX5_disturb 68 = .ok (.idiv, 1) := by decide +kernel
theorem dX5_disturb_69 : decode cX5_disturb 69 = .ok (.iconst 4, 1) := by decide +kernel
theorem dX5_disturb_70 : decode cX5_disturb 70 = .ok (.irem, 1) := by decide +kernel
theorem dX5_disturb_71 : decode cX5_disturb 71 = .ok (.invokestatic 128, 3) := by decide +kernel
theorem dX5_disturb_74 : decode cX5_disturb 74 = .ok (.iastore, 1) := by decide +kernel
theorem dX5_disturb_75 : decode cX5_disturb 75 = .ok (.goto 23, 3) := by decide +kernel
theorem dX5_disturb_78 : decode cX5_disturb 78 = .ok (.iload_n 1, 1) := by decide +kernel
theorem dX5_disturb_79 : decode cX5_disturb 79 = .ok (.iconst 3, 1) := by decide +kernel
theorem dX5_disturb_80 : decode cX5_disturb 80 = .ok (.irem, 1) := by decide +kernel
theorem dX5_disturb_81 : decode cX5_disturb 81 = .ok (.iconst 1, 1) := by decide +kernel
theorem dX5_disturb_82 : decode cX5_disturb 82 = .ok (.if_icmp .ne 16, 3) := by decide +kernel
theorem dX5_disturb_85 : decode cX5_disturb 85 = .ok (.aload_n 0, 1) := by decide +kernel
theorem dX5_disturb_86 : decode cX5_disturb 86 = .ok (.getfield 18, 3) := by decide +kernel
theorem dX5_disturb_89 : decode cX5_disturb 89 = .ok (.iload_n 2, 1) := by decide +kernel
theorem dX5_disturb_90 : decode cX5_disturb 90 = .ok (.iload_n 1, 1) := by decide +kernel
theorem dX5_disturb_91 : decode cX5_disturb 91 = .ok (.sipush 4096, 3) := by decide +kernel
theorem dX5_disturb_94 : decode cX5_disturb 94 = .ok (.idiv, 1) := by decide +kernel
theorem dX5_disturb_95 : decode cX5_disturb 95 = .ok (.iconst 4, 1) := by decide +kernel
theorem dX5_disturb_96 : decode cX5_disturb 96 = .ok (.irem, 1) := by decide +kernel
theorem dX5_disturb_97 : decode cX5_disturb 97 = .ok (.iastore, 1) := by decide +kernel
theorem dX5_disturb_98 : decode cX5_disturb 98 = .ok (.return_, 1) := by decide +kernel
theorem dJ6_bitCount_0f7a4_0 : decode cJ6_bitCount_0f7a4 0 = .ok (.iload_n 0, 1) := by decide +kernel
theorem dJ6_bitCount_0f7a4_1 : decode cJ6_bitCount_0f7a4 1 = .ok (.iload_n 0, 1) := by decide +kernel
theorem dJ6_bitCount_0f7a4_2 : decode cJ6_bitCount_0f7a4 2 = .ok (.iconst 1, 1) := by decide +kernel
theorem dJ6_bitCount_0f7a4_3 : decode cJ6_bitCount_0f7a4 3 = .ok (.iushr, 1) := by decide +kernel
theorem dJ6_bitCount_0f7a4_4 : decode cJ6_bitCount_0f7a4 4 = .ok (.ldc_w 265, 3) := by decide +kernel
theorem dJ6_bitCount_0f7a4_7 : decode cJ6_bitCount_0f7a4 7 = .ok (.iand, 1) := by decide +kernel
theorem dJ6_bitCount_0f7a4_8 : decode cJ6_bitCount_0f7a4 8 = .ok (.isub, 1) := by decide +kernel
theorem dJ6_bitCount_0f7a4_9 : decode cJ6_bitCount_0f7a4 9 = .ok (.istore_n 0, 1) := by decide +kernel
theorem dJ6_bitCount_0f7a4_10 : decode cJ6_bitCount_0f7a4 10 = .ok (.iload_n 0, 1) := by decide +kernel
theorem dJ6_bitCount_0f7a4_11 : decode cJ6_bitCount_0f7a4 11 = .ok (.ldc_w 266, 3) := by decide +kernel
theorem dJ6_bitCount_0f7a4_14 : decode cJ6_bitCount_0f7a4 14 = .ok (.iand, 1) := by decide +kernel
theorem dJ6_bitCount_0f7a4_15 : decode cJ6_bitCount_0f7a4 15 = .ok (.iload_n 0, 1) := by decide +kernel
theorem dJ6_bitCount_0f7a4_16 : decode cJ6_bitCount_0f7a4 16 = .ok (.iconst 2, 1) := by decide +kernel
theorem dJ6_bitCount_0f7a4_17 : decode cJ6_bitCount_0f7a4 17 = .ok (.iushr, 1) := by decide +kernel
theorem dJ6_bitCount_0f7a4_18 : decode cJ6_bitCount_0f7a4 18 = .ok (.ldc_w 266, 3) := by decide +kernel
theorem dJ6_bitCount_0f7a4_21 : decode cJ6_bitCount_0f7a4 21 = .ok (.iand, 1) := by decide +kernel
theorem dJ6_bitCount_0f7a4_22 : decode cJ6_bitCount_0f7a4 22 = .ok (.iadd, 1) := by decide +kernel
theorem dJ6_bitCount_0f7a4_23 : decode cJ6_bitCount_0f7a4 23 = .ok (.istore_n 0, 1) := by decide +kernel
theorem dJ6_bitCount_0f7a4_24 : decode cJ6_bitCount_0f7a4 24 = .ok (.iload_n 0, 1) := by decide +kernel
theorem dJ6_bitCount_0f7a4_25 : decode cJ6_bitCount_0f7a4 25 = .ok (.iload_n 0, 1) := by decide +kernel
theorem dJ6_bitCount_0f7a4_26 : decode cJ6_bitCount_0f7a4 26 = .ok (.iconst 4, 1) := by decide +kernel
theorem dJ6_bitCount_0f7a4_27 : decode cJ6_bitCount_0f7a4 27 = .ok (.iushr, 1) := by decide +kernel
theorem dJ6_bitCount_0f7a4_28 : decode cJ6_bitCount_0f7a4 28 = .ok (.iadd, 1) := by decide +kernel
theorem dJ6_bitCount_0f7a4_29 : decode cJ6_bitCount_0f7a4 29 = .ok (.ldc_w 267, 3) := by decide +kernel
theorem dJ6_bitCount_0f7a4_32 : decode cJ6_bitCount_0f7a4 32 = .ok (.iand, 1) := by decide +kernel
theorem dJ6_bitCount_0f7a4_33 : decode cJ6_bitCount_0f7a4 33 = .ok (.istore_n 0, 1) := by decide +kernel
theorem dJ6_bitCount_0f7a4_34 : decode cJ6_bitCount_0f7a4 34 = .ok (.iload_n 0, 1) := by decide +kernel
theorem dJ6_bitCount_0f7a4_35 : decode cJ6_bitCount_0f7a4 35 = .ok (.iload_n 0, 1) := by decide +kernel
theorem dJ6_bitCount_0f7a4_36 : decode cJ6_bitCount_0f7a4 36 = .ok (.bipush 8, 2) := by decide +kernel
theorem dJ6_bitCount_0f7a4_38 : decode cJ6_bitCount_0f7a4 38 = .ok (.iushr, 1) := by decide +kernel
theorem dJ6_bitCount_0f7a4_39 : decode cJ6_bitCount_0f7a4 39 = .ok (.iadd, 1) := by decide +kernel
theorem dJ6_bitCount_0f7a4_40 : decode cJ6_bitCount_0f7a4 40 = .ok (.istore_n 0, 1) := by decide +kernel
theorem dJ6_bitCount_0f7a4_41 : decode cJ6_bitCount_0f7a4 41 = .ok (.iload_n 0, 1) := by decide +kernel
theorem dJ6_bitCount_0f7a4_42 : decode cJ6_bitCount_0f7a4 42 = .ok (.iload_n 0, 1) := by decide +kernel
theorem dJ6_bitCount_0f7a4_43 : decode cJ6_bitCount_0f7a4 43 = .ok (.bipush 16, 2) := by decide +kernel
theorem dJ6_bitCount_0f7a4_45 : decode cJ6_bitCount_0f7a4 45 = .ok (.iushr, 1) := by decide +kernel
theorem dJ6_bitCount_0f7a4_46 : decode cJ6_bitCount_0f7a4 46 = .ok (.iadd, 1) := by decide +kernel
theorem dJ6_bitCount_0f7a4_47 : decode cJ6_bitCount_0f7a4 47 = .ok (.istore_n 0, 1) := by decide +kernel
theorem dJ6_bitCount_0f7a4_48 : decode cJ6_bitCount_0f7a4 48 = .ok (.iload_n 0, 1) := by decide +kernel
theorem dJ6_bitCount_0f7a4_49 : decode cJ6_bitCount_0f7a4 49 = .ok (.bipush 63, 2) := by decide +kernel
theorem dJ6_bitCount_0f7a4_51 : decode cJ6_bitCount_0f7a4 51 = .ok (.iand, 1) := by decide +kernel
theorem dJ6_bitCount_0f7a4_52 : decode cJ6_bitCount_0f7a4 52 = .ok (.ireturn, 1) := by decide +kernel
theorem dJ7_fill_53178_0 : decode cJ7_fill_53178 0 = .ok (.iconst 0, 1) := by decide +kernel
theorem dJ7_fill_53178_1 : decode cJ7_fill_53178 1 = .ok (.istore_n 2, 1) := by decide +kernel
theorem dJ7_fill_53178_2 : decode cJ7_fill_53178 2 = .ok (.aload_n 0, 1) := by decide +kernel
theorem dJ7_fill_53178_3 : decode cJ7_fill_53178 3 = .ok (.arraylength, 1) := by decide +kernel
theorem dJ7_fill_53178_4 : decode cJ7_fill_53178 4 = .ok (.istore_n 3, 1) := by decide +kernel
theorem dJ7_fill_53178_5 : decode cJ7_fill_53178 5 = .ok (.iload_n 2, 1) := by decide +kernel
theorem dJ7_fill_53178_6 : decode cJ7_fill_53178 6 = .ok (.iload_n 3, 1) := by decide +kernel
theorem dJ7_fill_53178_7 : decode cJ7_fill_53178 7 = .ok (.if_icmp .ge 13, 3) := by decide +kernel
theorem dJ7_fill_53178_10 : decode cJ7_fill_53178 10 = .ok (.aload_n 0, 1) := by decide +kernel
theorem dJ7_fill_53178_11 : decode cJ7_fill_53178 11 = .ok (.iload_n 2, 1) := by decide +kernel
theorem dJ7_fill_53178_12 : decode cJ7_fill_53178 12 = .ok (.iload_n 1, 1) := by decide +kernel
theorem dJ7_fill_53178_13 : decode cJ7_fill_53178 13 = .ok (.iastore, 1) := by decide +kernel
theorem dJ7_fill_53178_14 : decode cJ7_fill_53178 14 = .ok (.iinc 2 1, 3) := by decide +kernel
theorem dJ7_fill_53178_17 : decode cJ7_fill_53178 17 = .ok (.goto (-12), 3) := by decide +kernel
theorem dJ7_fill_53178_20 : decode cJ7_fill_53178 20 = .ok (.return_, 1) := by decide +kernel
theorem dJ9_max_7cf53_0 : decode cJ9_max_7cf53 0 = .ok (.iload_n 0, 1) := by decide +kernel
theorem dJ9_max_7cf53_1 : decode cJ9_max_7cf53 1 = .ok (.iload_n 1, 1) := by decide +kernel
theorem dJ9_max_7cf53_2 : decode cJ9_max_7cf53 2 = .ok (.if_icmp .lt 7, 3) := by decide +kernel
theorem dJ9_max_7cf53_5 : decode cJ9_max_7cf53 5 = .ok (.iload_n 0, 1) := by decide +kernel
theorem dJ9_max_7cf53_6 : decode cJ9_max_7cf53 6 = .ok (.goto 4, 3) := by decide +kernel
theorem dJ9_max_7cf53_9 : decode cJ9_max_7cf53 9 = .ok (.iload_n 1, 1) := by decide +kernel
theorem dJ9_max_7cf53_10 : decode cJ9_max_7cf53 10 = .ok (.ireturn, 1) := by decide +kernel
theorem dJ9_min_7cf53_0 : decode cJ9_min_7cf53 0 = .ok (.iload_n 0, 1) := by decide +kernel
theorem dJ9_min_7cf53_1 : decode cJ9_min_7cf53 1 = .ok (.iload_n 1, 1) := by decide +kernel
theorem dJ9_min_7cf53_2 : decode cJ9_min_7cf53 2 = .ok (.if_icmp .gt 7, 3) := by decide +kernel
theorem dJ9_min_7cf53_5 : decode cJ9_min_7cf53 5 = .ok (.iload_n 0, 1) := by decide +kernel
theorem dJ9_min_7cf53_6 : decode cJ9_min_7cf53 6 = .ok (.goto 4, 3) := by decide +kernel
theorem dJ9_min_7cf53_9 : decode cJ9_min_7cf53 9 = .ok (.iload_n 1, 1) := by decide +kernel
theorem dJ9_min_7cf53_10 : decode cJ9_min_7cf53 10 = .ok (.ireturn, 1) := by decide +kernel
end
section
theorem dX6_init_0 : decode cX6_init 0 = .ok (.aload_n 0, 1) := by decide +kernel
theorem dX6_init_1 : decode cX6_init 1 = .ok (.invokespecial 3, 3) := by decide +kernel
theorem dX6_init_4 : decode cX6_init 4 = .ok (.aload_n 0, 1) := by decide +kernel
theorem dX6_init_5 : decode cX6_init 5 = .ok (.iconst 5, 1) := by decide +kernel
theorem dX6_init_6 : decode cX6_init 6 = .ok (.newarray .int, 2) := by decide +kernel
theorem dX6_init_8 : decode cX6_init 8 = .ok (.putfield 9, 3) := by decide +kernel
theorem dX6_init_11 : decode cX6_init 11 = .ok (.aload_n 0, 1) := by decide +kernel
theorem dX6_init_12 : decode cX6_init 12 = .ok (.bipush 6, 2) := by decide +kernel
theorem dX6_init_14 : decode cX6_init 14 = .ok (.newarray .int, 2) := by decide +kernel
theorem dX6_init_16 : decode cX6_init 16 = .ok (.putfield 15, 3) := by decide +kernel
theorem dX6_init_19 : decode cX6_init 19 = .ok (.aload_n 0, 1) := by decide +kernel
theorem dX6_init_20 : decode cX6_init 20 = .ok (.bipush 50, 2) := by decide +kernel
theorem dX6_init_22 : decode cX6_init 22 = .ok (.newarray .int, 2) := by decide +kernel
theorem dX6_init_24 : decode cX6_init 24 = .ok (.putfield 20, 3) := by decide +kernel
theorem dX6_init_27 : decode cX6_init 27 = .ok (.aload_n 0, 1) := by decide +kernel
theorem dX6_init_28 : decode cX6_init 28 = .ok (.iconst 5, 1) := by decide +kernel
theorem dX6_init_29 : decode cX6_init 29 = .ok (.newarray .int, 2) := by decide +kernel
theorem dX6_init_31 : decode cX6_init 31 = .ok (.putfield 23, 3) := by decide +kernel
theorem dX6_init_34 : decode cX6_init 34 = .ok (.aload_n 0, 1) := by decide +kernel
theorem dX6_init_35 : decode cX6_init 35 = .ok (.iconst 5, 1) := by decide +kernel
theorem dX6_init_36 : decode cX6_init 36 = .ok (.newarray .int, 2) := by decide +kernel
theorem dX6_init_38 : decode cX6_init 38 = .ok (.putfield 26, 3) := by decide +kernel
theorem dX6_init_41 : decode cX6_init 41 = .ok (.aload_n 0, 1) := by decide +kernel
theorem dX6_init_42 : decode cX6_init 42 = .ok (.aload_n 1, 1) := by decide +kernel
theorem dX6_init_43 : decode cX6_init 43 = .ok (.putfield 29, 3) := by decide +kernel
theorem dX6_init_46 : decode cX6_init 46 = .ok (.return_, 1) := by decide +kernel
theorem dX6_read_0 : decode cX6_read 0 = .ok (.aload_n 0, 1) := by decide +kernel
theorem dX6_read_1 : decode cX6_read 1 = .ok (.iload_n 1, 1) := by decide +kernel
theorem dX6_read_2 : decode cX6_read 2 = .ok (.aload_n 0, 1) := by decide +kernel
theorem dX6_read_3 : decode cX6_read 3 = .ok (.getfield 29, 3) := by decide +kernel
theorem dX6_read_6 : decode cX6_read 6 = .ok (.arraylength, 1) := by decide +kernel
theorem dX6_read_7 : decode cX6_read 7 = .ok (.invokestatic 33, 3) := by decide +kernel
theorem dX6_read_10 : decode cX6_read 10 = .ok (.putfield 39, 3) := by decide +kernel
theorem dX6_read_13 : decode cX6_read 13 = .ok (.aload_n 0, 1) := by decide +kernel
theorem dX6_read_14 : decode cX6_read 14 = .ok (.iconst 0, 1) := by decide +kernel
theorem dX6_read_15 : decode cX6_read 15 = .ok (.putfield 43, 3) := by decide +kernel
theorem dX6_read_18 : decode cX6_read 18 = .ok (.aload_n 0, 1) := by decide +kernel
theorem dX6_read_19 : decode cX6_read 19 = .ok (.iconst 0, 1) := by decide +kernel
theorem dX6_read_20 : decode cX6_read 20 = .ok (.putfield 46, 3) := by decide +kernel
theorem dX6_read_23 : decode cX6_read 23 = .ok (.aload_n 0, 1) := by decide +kernel
theorem dX6_read_24 : decode cX6_read 24 = .ok (.invokevirtual 50, 3) := by decide +kernel
theorem dX6_read_27 : decode cX6_read 27 = .ok (.aload_n 0, 1) := by decide +kernel
theorem dX6_read_28 : decode cX6_read 28 = .ok (.invokevirtual 53, 3) := by decide +kernel
theorem dX6_read_31 : decode cX6_read 31 = .ok (.aload_n 0, 1) := by decide +kernel
theorem dX6_read_32 : decode cX6_read 32 = .ok (.getfield 46, 3) := by decide +kernel
theorem dX6_read_35 : decode cX6_read 35 = .ok (.ifCond .eq 10, 3) := by decide +kernel
theorem dX6_read_38 : decode cX6_read 38 = .ok (.aload_n 0, 1) := by decide +kernel
theorem dX6_read_39 : decode cX6_read 39 = .ok (.getfield 43, 3) := by decide +kernel
theorem dX6_read_42 : decode cX6_read 42 = .ok (.goto 5, 3) := by decide +kernel
theorem dX6_read_45 : decode cX6_read 45 = .ok (.bipush (-9), 2) := by decide +kernel
theorem dX6_read_47 : decode cX6_read 47 = .ok (.ireturn, 1) := by decide +kernel
theorem dX6_readHead_0 : decode cX6_readHead 0 = .ok (.aload_n 0, 1) := by decide +kernel
theorem dX6_readHead_1 : decode cX6_readHead 1 = .ok (.bipush 68, 2) := by decide +kernel
theorem dX6_readHead_3 : decode cX6_readHead 3 = .ok (.invokevirtual 56, 3) := by decide +kernel
theorem dX6_readHead_6 : decode cX6_readHead 6 = .ok (.aload_n 0, 1) := by decide +kernel
theorem dX6_readHead_7 : decode cX6_readHead 7 = .ok (.aload_n 0, 1) := by decide +kernel
theorem dX6_readHead_8 : decode cX6_readHead 8 = .ok (.iconst 1, 1) := by decide +kernel
theorem dX6_readHead_9 : decode cX6_readHead 9 = .ok (.iconst 5, 1) := by decide +kernel
theorem dX6_readHead_10 : decode cX6_readHead 10 = .ok (.invokevirtual 60, 3) := by decide +kernel
theorem dX6_readHead_13 : decode cX6_readHead 13 = .ok (.putfield 63, 3) := by decide +kernel
theorem dX6_readHead_16 : decode cX6_readHead 16 = .ok (.aload_n 0, 1) := by decide +kernel
theorem dX6_readHead_17 : decode cX6_readHead 17 = .ok (.aload_n 0, 1) := by decide +kernel
theorem dX6_readHead_18 : decode cX6_readHead 18 = .ok (.iconst 1, 1) := by decide +kernel
theorem dX6_readHead_19 : decode cX6_readHead 19 = .ok (.bipush 6, 2) := by decide +kernel
theorem dX6_readHead_21 : decode cX6_readHead 21 = .ok (.invokevirtual 60, 3) := by decide +kernel
theorem dX6_readHead_24 : decode cX6_readHead 24 = .ok (.putfield 66, 3) := by decide +kernel
theorem dX6_readHead_27 : decode cX6_readHead 27 = .ok (.aload_n 0, 1) := by decide +kernel
theorem dX6_readHead_28 : decode cX6_readHead 28 = .ok (.aload_n 0, 1) := by decide +kernel
theorem dX6_readHead_29 : decode cX6_readHead 29 = .ok (.iconst 1, 1) := by decide +kernel
theorem dX6_readHead_30 : decode cX6_readHead 30 = .ok (.bipush 9, 2) := by decide +kernel
theorem dX6_readHead_32 : decode cX6_readHead 32 = .ok (.invokevirtual 60, 3) := by decide +kernel
theorem dX6_readHead_35 : decode cX6_readHead 35 = .ok (.putfield 69, 3) := by decide +kernel
theorem dX6_readHead_38 : decode cX6_readHead 38 = .ok (.aload_n 0, 1) := by decide +kernel
theorem dX6_readHead_39 : decode cX6_readHead 39 = .ok (.iconst 0, 1) := by decide +kernel
theorem dX6_readHead_40 : decode cX6_readHead 40 = .ok (.iconst 5, 1) := by decide +kernel
theorem dX6_readHead_41 : decode cX6_readHead 41 = .ok (.invokevirtual 60, 3) := by decide +kernel
theorem dX6_readHead_44 : decode cX6_readHead 44 = .ok (.istore_n 1, 1) := by decide +kernel
theorem dX6_readHead_45 : decode cX6_readHead 45 = .ok (.aload_n 0, 1) := by decide +kernel
theorem dX6_readHead_46 : decode cX6_readHead 46 = .ok (.bipush 10, 2) := by decide +kernel
theorem dX6_readHead_48 : decode cX6_readHead 48 = .ok (.iload_n 1, 1) := by decide +kernel
theorem dX6_readHead_49 : decode cX6_readHead 49 = .ok (.imul, 1) := by decide +kernel
theorem dX6_readHead_50 : decode cX6_readHead 50 = .ok (.aload_n 0, 1) := by decide +kernel
theorem dX6_readHead_51 : decode cX6_readHead 51 = .ok (.iload_n 1, 1) := by decide +kernel
theorem dX6_readHead_52 : decode cX6_readHead 52 = .ok (.ifCond .ne 7, 3) := by decide +kernel
theorem dX6_readHead_55 : decode cX6_readHead 55 = .ok (.iconst 1, 1) := by decide +kernel
theorem dX6_readHead_56 : decode cX6_readHead 56 = .ok (.goto 4, 3) := by decide +kernel
theorem dX6_readHead_59 : decode cX6_readHead 59 = .ok (.iconst 0, 1) := by decide +kernel
theorem dX6_readHead_60 : decode cX6_readHead 60 = .ok (.iload_n 1, 1) := by decide +kernel
theorem dX6_readHead_61 : decode cX6_readHead 61 = .ok (.iconst 5, 1) := by decide +kernel
theorem dX6_readHead_62 : decode cX6_readHead 62 = .ok (.if_icmp .ne 7, 3) := by decide +kernel
theorem dX6_readHead_65 : decode cX6_readHead 65 = .ok (.iconst 0, 1) := by decide +kernel
theorem dX6_readHead_66 : decode cX6_readHead 66 = .ok (.goto 5, 3) := by decide +kernel
theorem dX6_readHead_69 : decode cX6_readHead 69 = .ok (.bipush 9, 2) := by decide +kernel
theorem dX6_readHead_71 : decode cX6_readHead 71 = .ok (.invokevirtual 60, 3) := by decide +kernel
theorem dX6_readHead_74 : decode cX6_readHead 74 = .ok (.iadd, 1) := by decide +kernel
theorem dX6_readHead_75 : decode cX6_readHead 75 = .ok (.putfield 72, 3) := by decide +kernel
theorem dX6_readHead_78 : decode cX6_readHead 78 = .ok (.iconst 0, 1) := by decide +kernel
theorem dX6_readHead_79 : decode cX6_readHead 79 = .ok (.istore_n 2, 1) := by decide +kernel
theorem dX6_readHead_80 : decode cX6_readHead 80 = .ok (.iload_n 2, 1) := by decide +kernel
theorem dX6_readHead_81 : decode cX6_readHead 81 = .ok (.aload_n 0, 1) := by decide +kernel
theorem dX6_readHead_82 : decode cX6_readHead 82 = .ok (.getfield 63, 3) := by decide +kernel
theorem dX6_readHead_85 : decode cX6_readHead 85 = .ok (.if_icmp .ge 21, 3) := by decide +kernel
theorem dX6_readHead_88 : decode cX6_readHead 88 = .ok (.aload_n 0, 1) := by decide +kernel
theorem dX6_readHead_89 : decode cX6_readHead 89 = .ok (.getfield 9, 3) := by decide +kernel
theorem dX6_readHead_92 : decode cX6_readHead 92 = .ok (.iload_n 2, 1) := by decide +kernel
theorem dX6_readHead_93 : decode cX6_readHead 93 = .ok (.aload_n 0, 1) := by decide +kernel
theorem dX6_readHead_94 : decode cX6_readHead 94 = .ok (.iconst 0, 1) := by decide +kernel
theorem dX6_readHead_95 : decode cX6_readHead 95 = .ok (.iconst 2, 1) := by decide +kernel
theorem dX6_readHead_96 : decode cX6_readHead 96 = .ok (.invokevirtual 60, 3) := by decide +kernel
theorem dX6_readHead_99 : decode cX6_readHead 99 = .ok (.iastore, 1) := by decide +kernel
theorem dX6_readHead_100 : decode cX6_readHead 100 = .ok (.iinc 2 1, 3) := by decide +kernel
theorem dX6_readHead_103 : decode cX6_readHead 103 = .ok (.goto (-23), 3) := by decide +kernel
theorem dX6_readHead_106 : decode cX6_readHead 106 = .ok (.iconst 0, 1) := by decide +kernel
theorem dX6_readHead_107 : decode cX6_readHead 107 = .ok (.istore_n 2, 1) := by decide +kernel
theorem dX6_readHead_108 : decode cX6_readHead 108 = .ok (.iload_n 2, 1) := by decide +kernel
theorem dX6_readHead_109 : decode cX6_readHead 109 = .ok (.aload_n 0, 1) := by decide +kernel
theorem dX6_readHead_110 : decode cX6_readHead 110 = .ok (.getfield 66, 3) := by decide +kernel
theorem dX6_readHead_113 : decode cX6_readHead 113 = .ok (.if_icmp .ge 21, 3) := by decide +kernel
theorem dX6_readHead_116 : decode cX6_readHead 116 = .ok (.aload_n 0, 1) := by decide +kernel
theorem dX6_readHead_117 : decode cX6_readHead 117 = .ok (.getfield 15, 3) := by decide +kernel
theorem dX6_readHead_120 : decode cX6_readHead 120 = .ok (.iload_n 2, 1) := by decide +kernel
theorem dX6_readHead_121 : decode cX6_readHead 121 = .ok (.aload_n 0, 1) := by decide +kernel
theorem dX6_readHead_122 : decode cX6_readHead 122 = .ok (.iconst 0, 1) := by decide +kernel
theorem dX6_readHead_123 : decode cX6_readHead 123 = .ok (.iconst 5, 1) := by decide +kernel
theorem dX6_readHead_124 : decode cX6_readHead 124 = .ok (.invokevirtual 60, 3) := by decide +kernel
theorem dX6_readHead_127 : decode cX6_readHead 127 = .ok (.iastore, 1) := by decide +kernel
theorem dX6_readHead_128 : decode cX6_readHead 128 = .ok (.iinc 2 1, 3) := by decide +kernel
theorem dX6_readHead_131 : decode cX6_readHead 131 = .ok (.goto (-23), 3) := by decide +kernel
theorem dX6_readHead_134 : decode cX6_readHead 134 = .ok (.return_, 1) := by decide +kernel
theorem dX6_readItems_0 : decode cX6_readItems 0 = .ok (.aload_n 0, 1) := by decide +kernel
theorem dX6_readItems_1 : decode cX6_readItems 1 = .ok (.iconst 0, 1) := by decide +kernel
theorem dX6_readItems_2 : decode cX6_readItems 2 = .ok (.putfield 75, 3) := by decide +kernel
theorem dX6_readItems_5 : decode cX6_readItems 5 = .ok (.aload_n 0, 1) := by decide +kernel
theorem dX6_readItems_6 : decode cX6_readItems 6 = .ok (.getfield 23, 3) := by decide +kernel
theorem dX6_readItems_9 : decode cX6_readItems 9 = .ok (.iconst 0, 1) := by decide +kernel
theorem dX6_readItems_10 : decode cX6_readItems 10 = .ok (.invokestatic 78, 3) := by decide +kernel
theorem dX6_readItems_13 : decode cX6_readItems 13 = .ok (.aload_n 0, 1) := by decide +kernel
theorem dX6_readItems_14 : decode cX6_readItems 14 = .ok (.getfield 26, 3) := by decide +kernel
theorem dX6_readItems_17 : decode cX6_readItems 17 = .ok (.iconst 0, 1) := by decide +kernel
theorem dX6_readItems_18 : decode cX6_readItems 18 = .ok (.invokestatic 78, 3) := by decide +kernel
theorem dX6_readItems_21 : decode cX6_readItems 21 = .ok (.iconst 0, 1) := by decide +kernel
theorem dX6_readItems_22 : decode cX6_readItems 22 = .ok (.istore_n 1, 1) := by decide +kernel
theorem dX6_readItems_23 : decode cX6_readItems 23 = .ok (.iload_n 1, 1) := by decide +kernel
theorem dX6_readItems_24 : decode cX6_readItems 24 = .ok (.sipush 160, 3) := by decide +kernel
theorem dX6_readItems_27 : decode cX6_readItems 27 = .ok (.if_icmp .ge 40, 3) := by decide +kernel
theorem dX6_readItems_30 : decode cX6_readItems 30 = .ok (.aload_n 0, 1) := by decide +kernel
theorem dX6_readItems_31 : decode cX6_readItems 31 = .ok (.getfield 46, 3) := by decide +kernel
theorem dX6_readItems_34 : decode cX6_readItems 34 = .ok (.ifCond .ne 33, 3) := by decide +kernel
theorem dX6_readItems_37 : decode cX6_readItems 37 = .ok (.aload_n 0, 1) := by decide +kernel
theorem dX6_readItems_38 : decode cX6_readItems 38 = .ok (.getfield 43, 3) := by decide +kernel
theorem dX6_readItems_41 : decode cX6_readItems 41 = .ok (.aload_n 0, 1) := by decide +kernel
theorem dX6_readItems_42 : decode cX6_readItems 42 = .ok (.getfield 39, 3) := by decide +kernel
theorem dX6_readItems_45 : decode cX6_readItems 45 = .ok (.if_icmp .ge 22, 3) := by decide +kernel
theorem dX6_readItems_48 : decode cX6_readItems 48 = .ok (.aload_n 0, 1) := by decide +kernel
theorem dX6_readItems_49 : decode cX6_readItems 49 = .ok (.aload_n 0, 1) := by decide +kernel
theorem dX6_readItems_50 : decode cX6_readItems 50 = .ok (.getfield 29, 3) := by decide +kernel
theorem dX6_readItems_53 : decode cX6_readItems 53 = .ok (.aload_n 0, 1) := by decide +kernel
theorem dX6_readItems_54 : decode cX6_readItems 54 = .ok (.getfield 43, 3) := by decide +kernel
theorem dX6_readItems_57 : decode cX6_readItems 57 = .ok (.caload, 1) := by decide +kernel
theorem dX6_readItems_58 : decode cX6_readItems 58 = .ok (.invokevirtual 84, 3) := by decide +kernel
theorem dX6_readItems_61 : decode cX6_readItems 61 = .ok (.iinc 1 1, 3) := by decide +kernel
theorem dX6_readItems_64 : decode cX6_readItems 64 = .ok (.goto (-41), 3) := by decide +kernel
theorem dX6_readItems_67 : decode cX6_readItems 67 = .ok (.return_, 1) := by decide +kernel
theorem dX6_readItem_0 : decode cX6_readItem 0 = .ok (.aload_n 0, 1) := by decide +kernel
theorem dX6_readItem_1 : decode cX6_readItem 1 = .ok (.getfield 66, 3) := by decide +kernel
theorem dX6_readItem_4 : decode cX6_readItem 4 = .ok (.iconst 1, 1) := by decide +kernel
theorem dX6_readItem_5 : decode cX6_readItem 5 = .ok (.if_icmp .le 16, 3) := by decide +kernel
theorem dX6_readItem_8 : decode cX6_readItem 8 = .ok (.aload_n 0, 1) := by decide +kernel
theorem dX6_readItem_9 : decode cX6_readItem 9 = .ok (.getfield 75, 3) := by decide +kernel
theorem dX6_readItem_12 : decode cX6_readItem 12 = .ok (.bipush 10, 2) := by decide +kernel
theorem dX6_readItem_14 : decode cX6_readItem 14 = .ok (.if_icmp .ge 7, 3) := by decide +kernel
theorem dX6_readItem_17 : decode cX6_readItem 17 = .ok (.iconst 1, 1) := by decide +kernel
theorem dX6_readItem_18 : decode cX6_readItem 18 = .ok (.goto 4, 3) := by decide +kernel
theorem dX6_readItem_21 : decode cX6_readItem 21 = .ok (.iconst 0, 1) := by decide +kernel
theorem dX6_readItem_22 : decode cX6_readItem 22 = .ok (.istore_n 2, 1) := by decide +kernel
theorem dX6_readItem_23 : decode cX6_readItem 23 = .ok (.iload_n 1, 1) := by decide +kernel
theorem dX6_readItem_24 : decode cX6_readItem 24 = .ok (.bipush 110, 2) := by decide +kernel
theorem dX6_readItem_26 : decode cX6_readItem 26 = .ok (.if_icmp .ne 25, 3) := by decide +kernel
theorem dX6_readItem_29 : decode cX6_readItem 29 = .ok (.iload_n 2, 1) := by decide +kernel
theorem dX6_readItem_30 : decode cX6_readItem 30 = .ok (.ifCond .eq 21, 3) := by decide +kernel
theorem dX6_readItem_33 : decode cX6_readItem 33 = .ok (.aload_n 0, 1) := by decide +kernel
theorem dX6_readItem_34 : decode cX6_readItem 34 = .ok (.dup, 1) := by decide +kernel
theorem dX6_readItem_35 : decode cX6_readItem 35 = .ok (.getfield 43, 3) := by decide +kernel
theorem dX6_readItem_38 : decode cX6_readItem 38 = .ok (.iconst 1, 1) := by decide +kernel
theorem dX6_readItem_39 : decode cX6_readItem 39 = .ok (.iadd, 1) := by decide +kernel
theorem dX6_readItem_40 : decode cX6_readItem 40 = .ok (.putfield 43, 3) := by decide +kernel
theorem dX6_readItem_43 : decode cX6_readItem 43 = .ok (.aload_n 0, 1) := by decide +kernel
theorem dX6_readItem_44 : decode cX6_readItem 44 = .ok (.iconst 0, 1) := by decide +kernel
theorem dX6_readItem_45 : decode cX6_readItem 45 = .ok (.invokevirtual 87, 3) := by decide +kernel
theorem dX6_readItem_48 : decode cX6_readItem 48 = .ok (.goto 90, 3) := by decide +kernel
theorem dX6_readItem_51 : decode cX6_readItem 51 = .ok (.iload_n 1, 1) := by decide +kernel
theorem dX6_readItem_52 : decode cX6_readItem 52 = .ok (.bipush 120, 2) := by decide +kernel
theorem dX6_readItem_54 : decode cX6_readItem 54 = .ok (.if_icmp .ne 25, 3) := by decide +kernel
theorem dX6_readItem_57 : decode cX6_readItem 57 = .ok (.iload_n 2, 1) := by decide +kernel
theorem dX6_readItem_58 : decode cX6_readItem 58 = .ok (.ifCond .eq 21, 3) := by decide +kernel
theorem dX6_readItem_61 : decode cX6_readItem 61 = .ok (.aload_n 0, 1) := by decide +kernel
theorem dX6_readItem_62 : decode cX6_readItem 62 = .ok (.dup, 1) := by decide +kernel
theorem dX6_readItem_63 : decode cX6_readItem 63 = .ok (.getfield 43, 3) := by decide +kernel
theorem dX6_readItem_66 : decode cX6_readItem 66 = .ok (.iconst 1, 1) := by decide +kernel
theorem dX6_readItem_67 : decode cX6_readItem 67 = .ok (.iadd, 1) := by decide +kernel
theorem dX6_readItem_68 : decode cX6_readItem 68 = .ok (.putfield 43, 3) := by decide +kernel
theorem dX6_readItem_71 : decode cX6_readItem 71 = .ok (.aload_n 0, 1) := by decide +kernel
theorem dX6_readItem_72 : decode cX6_readItem 72 = .ok (.iconst 1, 1) := by decide +kernel
theorem dX6_readItem_73 : decode cX6_readItem 73 = .ok (.invokevirtual 87, 3) := by decide +kernel
theorem dX6_readItem_76 : decode cX6_readItem 76 = .ok (.goto 62, 3) := by decide +kernel
theorem dX6_readItem_79 : decode cX6_readItem 79 = .ok (.iload_n 1, 1) := by decide +kernel
theorem dX6_readItem_80 : decode cX6_readItem 80 = .ok (.bipush 119, 2) := by decide +kernel
theorem dX6_readItem_82 : decode cX6_readItem 82 = .ok (.if_icmp .ne 24, 3) := by decide +kernel
theorem dX6_readItem_85 : decode cX6_readItem 85 = .ok (.aload_n 0, 1) := by decide +kernel
theorem dX6_readItem_86 : decode cX6_readItem 86 = .ok (.dup, 1) := by decide +kernel
theorem dX6_readItem_87 : decode cX6_readItem 87 = .ok (.getfield 43, 3) := by decide +kernel
theorem dX6_readItem_90 : decode cX6_readItem 90 = .ok (.iconst 1, 1) := by decide +kernel
theorem dX6_readItem_91 : decode cX6_readItem 91 = .ok (.iadd, 1) := by decide +kernel
theorem dX6_readItem_92 : decode cX6_readItem 92 = .ok (.putfield 43, 3) := by decide +kernel
theorem dX6_readItem_95 : decode cX6_readItem 95 = .ok (.aload_n 0, 1) := by decide +kernel
theorem dX6_readItem_96 : decode cX6_readItem 96 = .ok (.aload_n 0, 1) := by decide +kernel
theorem dX6_readItem_97 : decode cX6_readItem 97 = .ok (.getfield 26, 3) := by decide +kernel
theorem dX6_readItem_100 : decode cX6_readItem 100 = .ok (.invokevirtual 91, 3) := by decide +kernel
theorem dX6_readItem_103 : decode cX6_readItem 103 = .ok (.goto 35, 3) := by decide +kernel
theorem dX6_readItem_106 : decode cX6_readItem 106 = .ok (.iload_n 1, 1) := by decide +kernel
theorem dX6_readItem_107 : decode cX6_readItem 107 = .ok (.bipush 118, 2) := by decide +kernel
theorem dX6_readItem_109 : decode cX6_readItem 109 = .ok (.if_icmp .ne 24, 3) := by decide +kernel
theorem dX6_readItem_112 : decode cX6_readItem 112 = .ok (.aload_n 0, 1) := by decide +kernel
theorem dX6_readItem_113 : decode cX6_readItem 113 = .ok (.dup, 1) := by decide +kernel
theorem dX6_readItem_114 : decode cX6_readItem 114 = .ok (.getfield 43, 3) := by decide +kernel
theorem dX6_readItem_117 : decode cX6_readItem 117 = .ok (.iconst 1, 1) := by decide +kernel
theorem dX6_readItem_118 : decode cX6_readItem 118 = .ok (.iadd, 1) := by decide +kernel
theorem dX6_readItem_119 : decode cX6_readItem 119 = .ok (.putfield 43, 3) := by decide +kernel
theorem dX6_readItem_122 : decode cX6_readItem 122 = .ok (.aload_n 0, 1) := by decide +kernel
theorem dX6_readItem_123 : decode cX6_readItem 123 = .ok (.aload_n 0, 1) := by decide +kernel
theorem dX6_readItem_124 : decode cX6_readItem 124 = .ok (.getfield 23, 3) := by decide +kernel
theorem dX6_readItem_127 : decode cX6_readItem 127 = .ok (.invokevirtual 91, 3) := by decide +kernel
theorem dX6_readItem_130 : decode cX6_readItem 130 = .ok (.goto 8, 3) := by decide +kernel
theorem dX6_readItem_133 : decode cX6_readItem 133 = .ok (.aload_n 0, 1) := by decide +kernel
theorem dX6_readItem_134 : decode cX6_readItem 134 = .ok (.iconst 1, 1) := by decide +kernel
theorem dX6_readItem_135 : decode cX6_readItem 135 = .ok (.putfield 46, 3) := by decide +kernel
theorem dX6_readItem_138 : decode cX6_readItem 138 = .ok (.return_, 1) := by decide +kernel
theorem dX6_readRule_0 : decode cX6_readRule 0 = .ok (.aload_n 0, 1) := by decide +kernel
theorem dX6_readRule_1 : decode cX6_readRule 1 = .ok (.getfield 75, 3) := by decide +kernel
theorem dX6_readRule_4 : decode cX6_readRule 4 = .ok (.iconst 5, 1) := by decide +kernel
theorem dX6_readRule_5 : decode cX6_readRule 5 = .ok (.imul, 1) := by decide +kernel
theorem dX6_readRule_6 : decode cX6_readRule 6 = .ok (.istore_n 2, 1) := by decide +kernel
theorem dX6_readRule_7 : decode cX6_readRule 7 = .ok (.aload_n 0, 1) := by decide +kernel
theorem dX6_readRule_8 : decode cX6_readRule 8 = .ok (.getfield 20, 3) := by decide +kernel
theorem dX6_readRule_11 : decode cX6_readRule 11 = .ok (.iload_n 2, 1) := by decide +kernel
theorem dX6_readRule_12 : decode cX6_readRule 12 = .ok (.iload_n 1, 1) := by decide +kernel
theorem dX6_readRule_13 : decode cX6_readRule 13 = .ok (.iastore, 1) := by decide +kernel
theorem dX6_readRule_14 : decode cX6_readRule 14 = .ok (.aload_n 0, 1) := by decide +kernel
theorem dX6_readRule_15 : decode cX6_readRule 15 = .ok (.getfield 20, 3) := by decide +kernel
theorem dX6_readRule_18 : decode cX6_readRule 18 = .ok (.iload_n 2, 1) := by decide +kernel
theorem dX6_readRule_19 : decode cX6_readRule 19 = .ok (.iconst 1, 1) := by decide +kernel
theorem dX6_readRule_20 : decode cX6_readRule 20 = .ok (.iadd, 1) := by decide +kernel
theorem dX6_readRule_21 : decode cX6_readRule 21 = .ok (.aload_n 0, 1) := by decide +kernel
theorem dX6_readRule_22 : decode cX6_readRule 22 = .ok (.iconst 0, 1) := by decide +kernel
theorem dX6_readRule_23 : decode cX6_readRule 23 = .ok (.aload_n 0, 1) := by decide +kernel
theorem dX6_readRule_24 : decode cX6_readRule 24 = .ok (.getfield 66, 3) := by decide +kernel
theorem dX6_readRule_27 : decode cX6_readRule 27 = .ok (.iconst 1, 1) := by decide +kernel
theorem dX6_readRule_28 : decode cX6_readRule 28 = .ok (.isub, 1) := by decide +kernel
theorem dX6_readRule_29 : decode cX6_readRule 29 = .ok (.invokevirtual 60, 3) := by decide +kernel
theorem dX6_readRule_32 : decode cX6_readRule 32 = .ok (.iastore, 1) := by decide +kernel
theorem dX6_readRule_33 : decode cX6_readRule 33 = .ok (.aload_n 0, 1) := by decide +kernel
theorem dX6_readRule_34 : decode cX6_readRule 34 = .ok (.getfield 20, 3) := by decide +kernel
theorem dX6_readRule_37 : decode cX6_readRule 37 = .ok (.iload_n 2, 1) := by decide +kernel
theorem dX6_readRule_38 : decode cX6_readRule 38 = .ok (.iconst 2, 1) := by decide +kernel
theorem dX6_readRule_39 : decode cX6_readRule 39 = .ok (.iadd, 1) := by decide +kernel
theorem dX6_readRule_40 : decode cX6_readRule 40 = .ok (.aload_n 0, 1) := by decide +kernel
theorem dX6_readRule_41 : decode cX6_readRule 41 = .ok (.iconst 1, 1) := by decide +kernel
theorem dX6_readRule_42 : decode cX6_readRule 42 = .ok (.iconst 3, 1) := by decide +kernel
theorem dX6_readRule_43 : decode cX6_readRule 43 = .ok (.invokevirtual 60, 3) := by decide +kernel
theorem dX6_readRule_46 : decode cX6_readRule 46 = .ok (.iastore, 1) := by decide +kernel
theorem dX6_readRule_47 : decode cX6_readRule 47 = .ok (.aload_n 0, 1) := by decide +kernel
theorem dX6_readRule_48 : decode cX6_readRule 48 = .ok (.getfield 20, 3) := by decide +kernel
theorem dX6_readRule_51 : decode cX6_readRule 51 = .ok (.iload_n 2, 1) := by decide +kernel
theorem dX6_readRule_52 : decode cX6_readRule 52 = .ok (.iconst 3, 1) := by decide +kernel
theorem dX6_readRule_53 : decode cX6_readRule 53 = .ok (.iadd, 1) := by decide +kernel
theorem dX6_readRule_54 : decode cX6_readRule 54 = .ok (.aload_n 0, 1) := by decide +kernel
theorem dX6_readRule_55 : decode cX6_readRule 55 = .ok (.aload_n 0, 1) := by decide +kernel
theorem dX6_readRule_56 : decode cX6_readRule 56 = .ok (.getfield 20, 3) := by decide +kernel
theorem dX6_readRule_59 : decode cX6_readRule 59 = .ok (.iload_n 2, 1) := by decide +kernel
theorem dX6_readRule_60 : decode cX6_readRule 60 = .ok (.iconst 1, 1) := by decide +kernel
theorem dX6_readRule_61 : decode cX6_readRule 61 = .ok (.iadd, 1) := by decide +kernel
theorem dX6_readRule_62 : decode cX6_readRule 62 = .ok (.iaload, 1) := by decide +kernel
theorem dX6_readRule_63 : decode cX6_readRule 63 = .ok (.aload_n 0, 1) := by decide +kernel
theorem dX6_readRule_64 : decode cX6_readRule 64 = .ok (.getfield 66, 3) := by decide +kernel
theorem dX6_readRule_67 : decode cX6_readRule 67 = .ok (.iconst 1, 1) := by decide +kernel
theorem dX6_readRule_68 : decode cX6_readRule 68 = .ok (.isub, 1) := by decide +kernel
theorem dX6_readRule_69 : decode cX6_readRule 69 = .ok (.invokevirtual 95, 3) := by decide +kernel
theorem dX6_readRule_72 : decode cX6_readRule 72 = .ok (.iastore, 1) := by decide +kernel
theorem dX6_readRule_73 : decode cX6_readRule 73 = .ok (.aload_n 0, 1) := by decide +kernel
theorem dX6_readRule_74 : decode cX6_readRule 74 = .ok (.getfield 20, 3) := by decide +kernel
theorem dX6_readRule_77 : decode cX6_readRule 77 = .ok (.iload_n 2, 1) := by decide +kernel
theorem dX6_readRule_78 : decode cX6_readRule 78 = .ok (.iconst 4, 1) := by decide +kernel
theorem dX6_readRule_79 : decode cX6_readRule 79 = .ok (.iadd, 1) := by decide +kernel
theorem dX6_readRule_80 : decode cX6_readRule 80 = .ok (.aload_n 0, 1) := by decide +kernel
theorem dX6_readRule_81 : decode cX6_readRule 81 = .ok (.iconst 1, 1) := by decide +kernel
theorem dX6_readRule_82 : decode cX6_readRule 82 = .ok (.iconst 3, 1) := by decide +kernel
theorem dX6_readRule_83 : decode cX6_readRule 83 = .ok (.invokevirtual 60, 3) := by decide +kernel
theorem dX6_readRule_86 : decode cX6_readRule 86 = .ok (.iastore, 1) := by decide +kernel
theorem dX6_readRule_87 : decode cX6_readRule 87 = .ok (.aload_n 0, 1) := by decide +kernel
theorem dX6_readRule_88 : decode cX6_readRule 88 = .ok (.dup, 1) := by decide +kernel
theorem dX6_readRule_89 : decode cX6_readRule 89 = .ok (.getfield 75, 3) := by decide +kernel
theorem dX6_readRule_92 : decode cX6_readRule 92 = .ok (.iconst 1, 1) := by decide +kernel
theorem dX6_readRule_93 : decode cX6_readRule 93 = .ok (.iadd, 1) := by decide +kernel
theorem dX6_readRule_94 : decode cX6_readRule 94 = .ok (.putfield 75, 3) := by decide +kernel
theorem dX6_readRule_97 : decode cX6_readRule 97 = .ok (.return_, 1) := by decide +kernel
theorem dX6_readVersion_0 : decode cX6_readVersion 0 = .ok (.aload_n 0, 1) := by decide +kernel
theorem dX6_readVersion_1 : decode cX6_readVersion 1 = .ok (.iconst 0, 1) := by decide +kernel
theorem dX6_readVersion_2 : decode cX6_readVersion 2 = .ok (.aload_n 0, 1) := by decide +kernel
theorem dX6_readVersion_3 : decode cX6_readVersion 3 = .ok (.getfield 63, 3) := by decide +kernel
theorem dX6_readVersion_6 : decode cX6_readVersion 6 = .ok (.iconst 1, 1) := by decide +kernel
theorem dX6_readVersion_7 : decode cX6_readVersion 7 = .ok (.isub, 1) := by decide +kernel
theorem dX6_readVersion_8 : decode cX6_readVersion 8 = .ok (.invokevirtual 60, 3) := by decide +kernel
theorem dX6_readVersion_11 : decode cX6_readVersion 11 = .ok (.istore_n 2, 1) := by decide +kernel
theorem dX6_readVersion_12 : decode cX6_readVersion 12 = .ok (.aload_n 0, 1) := by decide +kernel
theorem dX6_readVersion_13 : decode cX6_readVersion 13 = .ok (.iconst 0, 1) := by decide +kernel
theorem dX6_readVersion_14 : decode cX6_readVersion 14 = .ok (.aload_n 0, 1) := by decide +kernel
theorem dX6_readVersion_15 : decode cX6_readVersion 15 = .ok (.getfield 66, 3) := by decide +kernel
theorem dX6_readVersion_18 : decode cX6_readVersion 18 = .ok (.iconst 1, 1) := by decide +kernel
theorem dX6_readVersion_19 : decode cX6_readVersion 19 = .ok (.isub, 1) := by decide +kernel
theorem dX6_readVersion_20 : decode cX6_readVersion 20 = .ok (.invokevirtual 60, 3) := by decide +kernel
theorem dX6_readVersion_23 : decode cX6_readVersion 23 = .ok (.istore_n 3, 1) := by decide +kernel
theorem dX6_readVersion_24 : decode cX6_readVersion 24 = .ok (.aload_n 0, 1) := by decide +kernel
theorem dX6_readVersion_25 : decode cX6_readVersion 25 = .ok (.iconst 0, 1) := by decide +kernel
theorem dX6_readVersion_26 : decode cX6_readVersion 26 = .ok (.iconst 3, 1) := by decide +kernel
theorem dX6_readVersion_27 : decode cX6_readVersion 27 = .ok (.invokevirtual 60, 3) := by decide +kernel
theorem dX6_readVersion_30 : decode cX6_readVersion 30 = .ok (.istore 4, 2) := by decide +kernel
theorem dX6_readVersion_32 : decode cX6_readVersion 32 = .ok (.aload_n 1, 1) := by decide +kernel
theorem dX6_readVersion_33 : decode cX6_readVersion 33 = .ok (.iload_n 2, 1) := by decide +kernel
theorem dX6_readVersion_34 : decode cX6_readVersion 34 = .ok (.aload_n 1, 1) := by decide +kernel
theorem dX6_readVersion_35 : decode cX6_readVersion 35 = .ok (.iload_n 2, 1) := by decide +kernel
theorem dX6_readVersion_36 : decode cX6_readVersion 36 = .ok (.iaload, 1) := by decide +kernel
theorem dX6_readVersion_37 : decode cX6_readVersion 37 = .ok (.iload_n 3, 1) := by decide +kernel
theorem dX6_readVersion_38 : decode cX6_readVersion 38 = .ok (.iload 4, 2) := by decide +kernel
theorem dX6_readVersion_40 : decode cX6_readVersion 40 = .ok (.invokestatic 98, 3) := by decide +kernel
theorem dX6_readVersion_43 : decode cX6_readVersion 43 = .ok (.iastore, 1) := by decide +kernel
theorem dX6_readVersion_44 : decode cX6_readVersion 44 = .ok (.return_, 1) := by decide +kernel
theorem dX6_readLetter_0 : decode cX6_readLetter 0 = .ok (.aload_n 0, 1) := by decide +kernel
theorem dX6_readLetter_1 : decode cX6_readLetter 1 = .ok (.getfield 43, 3) := by decide +kernel
theorem dX6_readLetter_4 : decode cX6_readLetter 4 = .ok (.aload_n 0, 1) := by decide +kernel
theorem dX6_readLetter_5 : decode cX6_readLetter 5 = .ok (.getfield 39, 3) := by decide +kernel
theorem dX6_readLetter_8 : decode cX6_readLetter 8 = .ok (.if_icmp .ge 29, 3) := by decide +kernel
theorem dX6_readLetter_11 : decode cX6_readLetter 11 = .ok (.aload_n 0, 1) := by decide +kernel
theorem dX6_readLetter_12 : decode cX6_readLetter 12 = .ok (.getfield 29, 3) := by decide +kernel
theorem dX6_readLetter_15 : decode cX6_readLetter 15 = .ok (.aload_n 0, 1) := by decide +kernel
theorem dX6_readLetter_16 : decode cX6_readLetter 16 = .ok (.getfield 43, 3) := by decide +kernel
theorem dX6_readLetter_19 : decode cX6_readLetter 19 = .ok (.caload, 1) := by decide +kernel
theorem dX6_readLetter_20 : decode cX6_readLetter 20 = .ok (.iload_n 1, 1) := by decide +kernel
theorem dX6_readLetter_21 : decode cX6_readLetter 21 = .ok (.if_icmp .ne 16, 3) := by decide +kernel
theorem dX6_readLetter_24 : decode cX6_readLetter 24 = .ok (.aload_n 0, 1) := by decide +kernel
theorem dX6_readLetter_25 : decode cX6_readLetter 25 = .ok (.dup, 1) := by decide +kernel
theorem dX6_readLetter_26 : decode cX6_readLetter 26 = .ok (.getfield 43, 3) := by decide +kernel
theorem dX6_readLetter_29 : decode cX6_readLetter 29 = .ok (.iconst 1, 1) := by decide +kernel
theorem dX6_readLetter_30 : decode cX6_readLetter 30 = .ok (.iadd, 1) := by decide +kernel
theorem dX6_readLetter_31 : decode cX6_readLetter 31 = .ok (.putfield 43, 3) := by decide +kernel
theorem dX6_readLetter_34 : decode cX6_readLetter 34 = .ok (.goto 8, 3) := by decide +kernel
theorem dX6_readLetter_37 : decode cX6_readLetter 37 = .ok (.aload_n 0, 1) := by decide +kernel
theorem dX6_readLetter_38 : decode cX6_readLetter 38 = .ok (.iconst 1, 1) := by decide +kernel
theorem dX6_readLetter_39 : decode cX6_readLetter 39 = .ok (.putfield 46, 3) := by decide +kernel
theorem dX6_readLetter_42 : decode cX6_readLetter 42 = .ok (.return_, 1) := by decide +kernel
theorem dX6_readDigit_0 : decode cX6_readDigit 0 = .ok (.aload_n 0, 1) := by decide +kernel
theorem dX6_readDigit_1 : decode cX6_readDigit 1 = .ok (.getfield 46, 3) := by decide +kernel
theorem dX6_readDigit_4 : decode cX6_readDigit 4 = .ok (.ifCond .ne 49, 3) := by decide +kernel
theorem dX6_readDigit_7 : decode cX6_readDigit 7 = .ok (.aload_n 0, 1) := by decide +kernel
theorem dX6_readDigit_8 : decode cX6_readDigit 8 = .ok (.getfield 43, 3) := by decide +kernel
theorem dX6_readDigit_11 : decode cX6_readDigit 11 = .ok (.aload_n 0, 1) := by decide +kernel
theorem dX6_readDigit_12 : decode cX6_readDigit 12 = .ok (.getfield 39, 3) := by decide +kernel
theorem dX6_readDigit_15 : decode cX6_readDigit 15 = .ok (.if_icmp .ge 38, 3) := by decide +kernel
theorem dX6_readDigit_18 : decode cX6_readDigit 18 = .ok (.aload_n 0, 1) := by decide +kernel
theorem dX6_readDigit_19 : decode cX6_readDigit 19 = .ok (.getfield 29, 3) := by decide +kernel
theorem dX6_readDigit_22 : decode cX6_readDigit 22 = .ok (.aload_n 0, 1) := by decide +kernel
theorem dX6_readDigit_23 : decode cX6_readDigit 23 = .ok (.getfield 43, 3) := by decide +kernel
theorem dX6_readDigit_26 : decode cX6_readDigit 26 = .ok (.caload, 1) := by decide +kernel
theorem dX6_readDigit_27 : decode cX6_readDigit 27 = .ok (.bipush 48, 2) := by decide +kernel
theorem dX6_readDigit_29 : decode cX6_readDigit 29 = .ok (.isub, 1) := by decide +kernel
theorem dX6_readDigit_30 : decode cX6_readDigit 30 = .ok (.istore_n 3, 1) := by decide +kernel
theorem dX6_readDigit_31 : decode cX6_readDigit 31 = .ok (.iload_n 3, 1) := by decide +kernel
theorem dX6_readDigit_32 : decode cX6_readDigit 32 = .ok (.iload_n 1, 1) := by decide +kernel
theorem dX6_readDigit_33 : decode cX6_readDigit 33 = .ok (.if_icmp .lt 20, 3) := by decide +kernel
theorem dX6_readDigit_36 : decode cX6_readDigit 36 = .ok (.iload_n 3, 1) := by decide +kernel
theorem dX6_readDigit_37 : decode cX6_readDigit 37 = .ok (.iload_n 2, 1) := by decide +kernel
theorem dX6_readDigit_38 : decode cX6_readDigit 38 = .ok (.if_icmp .gt 15, 3) := by decide +kernel
theorem dX6_readDigit_41 : decode cX6_readDigit 41 = .ok (.aload_n 0, 1) := by decide +kernel
theorem dX6_readDigit_42 : decode cX6_readDigit 42 = .ok (.dup, 1) := by decide +kernel
theorem dX6_readDigit_43 : decode cX6_readDigit 43 = .ok (.getfield 43, 3) := by decide +kernel
theorem dX6_readDigit_46 : decode cX6_readDigit 46 = .ok (.iconst 1, 1) := by decide +kernel
theorem dX6_readDigit_47 : decode cX6_readDigit 47 = .ok (.iadd, 1) := by decide +kernel
theorem dX6_readDigit_48 : decode cX6_readDigit 48 = .ok (.putfield 43, 3) := by decide +kernel
theorem dX6_readDigit_51 : decode cX6_readDigit 51 = .ok (.iload_n 3, 1) := by decide +kernel
theorem dX6_readDigit_52 : decode cX6_readDigit 52 = .ok (.ireturn, 1) := by decide +kernel
theorem dX6_readDigit_53 : decode cX6_readDigit 53 = .ok (.aload_n 0, 1) := by decide +kernel
theorem dX6_readDigit_54 : decode cX6_readDigit 54 = .ok (.iconst 1, 1) := by decide +kernel
theorem dX6_readDigit_55 : decode cX6_readDigit 55 = .ok (.putfield 46, 3) := by decide +kernel
theorem dX6_readDigit_58 : decode cX6_readDigit 58 = .ok (.iload_n 1, 1) := by decide +kernel
theorem dX6_readDigit_59 : decode cX6_readDigit 59 = .ok (.ireturn, 1) := by decide +kernel
theorem dX6_readDigitBut_0 : decode cX6_readDigitBut 0 = .ok (.aload_n 0, 1) := by decide +kernel
theorem dX6_readDigitBut_1 : decode cX6_readDigitBut 1 = .ok (.getfield 43, 3) := by decide +kernel
theorem dX6_readDigitBut_4 : decode cX6_readDigitBut 4 = .ok (.aload_n 0, 1) := by decide +kernel
theorem dX6_readDigitBut_5 : decode cX6_readDigitBut 5 = .ok (.getfield 39, 3) := by decide +kernel
theorem dX6_readDigitBut_8 : decode cX6_readDigitBut 8 = .ok (.if_icmp .ge 24, 3) := by decide +kernel
theorem dX6_readDigitBut_11 : decode cX6_readDigitBut 11 = .ok (.aload_n 0, 1) := by decide +kernel
theorem dX6_readDigitBut_12 : decode cX6_readDigitBut 12 = .ok (.getfield 29, 3) := by decide +kernel
theorem dX6_readDigitBut_15 : decode cX6_readDigitBut 15 = .ok (.aload_n 0, 1) := by decide +kernel
theorem dX6_readDigitBut_16 : decode cX6_readDigitBut 16 = .ok (.getfield 43, 3) := by decide +kernel
theorem dX6_readDigitBut_19 : decode cX6_readDigitBut 19 = .ok (.caload, 1) := by decide +kernel
theorem dX6_readDigitBut_20 : decode cX6_readDigitBut 20 = .ok (.bipush 48, 2) := by decide +kernel
theorem dX6_readDigitBut_22 : decode cX6_readDigitBut 22 = .ok (.isub, 1) := by decide +kernel
theorem dX6_readDigitBut_23 : decode cX6_readDigitBut 23 = .ok (.iload_n 1, 1) := by decide +kernel
theorem dX6_readDigitBut_24 : decode cX6_readDigitBut 24 = .ok (.if_icmp .ne 8, 3) := by decide +kernel
theorem dX6_readDigitBut_27 : decode cX6_readDigitBut 27 = .ok (.aload_n 0, 1) := by decide +kernel
theorem dX6_readDigitBut_28 : decode cX6_readDigitBut 28 = .ok (.iconst 1, 1) := by decide +kernel
theorem dX6_readDigitBut_29 : decode cX6_readDigitBut 29 = .ok (.putfield 46, 3) := by decide +kernel
theorem dX6_readDigitBut_32 : decode cX6_readDigitBut 32 = .ok (.aload_n 0, 1) := by decide +kernel
theorem dX6_readDigitBut_33 : decode cX6_readDigitBut 33 = .ok (.iconst 0, 1) := by decide +kernel
theorem dX6_readDigitBut_34 : decode cX6_readDigitBut 34 = .ok (.iload_n 2, 1) := by decide +kernel
theorem dX6_readDigitBut_35 : decode cX6_readDigitBut 35 = .ok (.invokevirtual 60, 3) := by decide +kernel
theorem dX6_readDigitBut_38 : decode cX6_readDigitBut 38 = .ok (.ireturn, 1) := by decide +kernel
theorem dX7_init_0 : decode cX7_init 0 = .ok (.aload_n 0, 1) := by decide +kernel
theorem dX7_init_1 : decode cX7_init 1 = .ok (.invokespecial 3, 3) := by decide +kernel
theorem dX7_init_4 : decode cX7_init 4 = .ok (.aload_n 0, 1) := by decide +kernel
theorem dX7_init_5 : decode cX7_init 5 = .ok (.sipush 4096, 3) := by decide +kernel
theorem dX7_init_8 : decode cX7_init 8 = .ok (.newarray .int, 2) := by decide +kernel
theorem dX7_init_10 : decode cX7_init 10 = .ok (.putfield 9, 3) := by decide +kernel
theorem dX7_init_13 : decode cX7_init 13 = .ok (.aload_n 0, 1) := by decide +kernel
theorem dX7_init_14 : decode cX7_init 14 = .ok (.sipush 4096, 3) := by decide +kernel
theorem dX7_init_17 : decode cX7_init 17 = .ok (.newarray .int, 2) := by decide +kernel
theorem dX7_init_19 : decode cX7_init 19 = .ok (.putfield 15, 3) := by decide +kernel
theorem dX7_init_22 : decode cX7_init 22 = .ok (.aload_n 0, 1) := by decide +kernel
theorem dX7_init_23 : decode cX7_init 23 = .ok (.iconst (-1), 1) := by decide +kernel
theorem dX7_init_24 : decode cX7_init 24 = .ok (.putfield 18, 3) := by decide +kernel
theorem dX7_init_27 : decode cX7_init 27 = .ok (.aload_n 0, 1) := by decide +kernel
theorem dX7_init_28 : decode cX7_init 28 = .ok (.aload_n 1, 1) := by decide +kernel
theorem dX7_init_29 : decode cX7_init 29 = .ok (.putfield 22, 3) := by decide +kernel
theorem dX7_init_32 : decode cX7_init 32 = .ok (.return_, 1) := by decide +kernel
theorem dX7_forget_0 : decode cX7_forget 0 = .ok (.aload_n 0, 1) := by decide +kernel
theorem dX7_forget_1 : decode cX7_forget 1 = .ok (.iconst (-1), 1) := by decide +kernel
theorem dX7_forget_2 : decode cX7_forget 2 = .ok (.putfield 18, 3) := by decide +kernel
theorem dX7_forget_5 : decode cX7_forget 5 = .ok (.return_, 1) := by decide +kernel
theorem dX7_distance_0 : decode cX7_distance 0 = .ok (.aload_n 0, 1) := by decide +kernel
theorem dX7_distance_1 : decode cX7_distance 1 = .ok (.getfield 18, 3) := by decide +kernel
theorem dX7_distance_4 : decode cX7_distance 4 = .ok (.iload_n 2, 1) := by decide +kernel
theorem dX7_distance_5 : decode cX7_distance 5 = .ok (.if_icmp .eq 8, 3) := by decide +kernel
theorem dX7_distance_8 : decode cX7_distance 8 = .ok (.aload_n 0, 1) := by decide +kernel
theorem dX7_distance_9 : decode cX7_distance 9 = .ok (.iload_n 2, 1) := by decide +kernel
theorem dX7_distance_10 : decode cX7_distance 10 = .ok (.invokevirtual 26, 3) := by decide +kernel
theorem dX7_distance_13 : decode cX7_distance 13 = .ok (.iconst 0, 1) := by decide +kernel
theorem dX7_distance_14 : decode cX7_distance 14 = .ok (.istore_n 3, 1) := by decide +kernel
theorem dX7_distance_15 : decode cX7_distance 15 = .ok (.iload_n 3, 1) := by decide +kernel
theorem dX7_distance_16 : decode cX7_distance 16 = .ok (.sipush 4096, 3) := by decide +kernel
theorem dX7_distance_19 : decode cX7_distance 19 = .ok (.if_icmp .ge 53, 3) := by decide +kernel
theorem dX7_distance_22 : decode cX7_distance 22 = .ok (.aload_n 0, 1) := by decide +kernel
theorem dX7_distance_23 : decode cX7_distance 23 = .ok (.getfield 30, 3) := by decide +kernel
theorem dX7_distance_26 : decode cX7_distance 26 = .ok (.aload_n 0, 1) := by decide +kernel
theorem dX7_distance_27 : decode cX7_distance 27 = .ok (.getfield 33, 3) := by decide +kernel
theorem dX7_distance_30 : decode cX7_distance 30 = .ok (.if_icmp .ge 42, 3) := by decide +kernel
theorem dX7_distance_33 : decode cX7_distance 33 = .ok (.aload_n 0, 1) := by decide +kernel
theorem dX7_distance_34 : decode cX7_distance 34 = .ok (.iload_n 1, 1) := by decide +kernel
theorem dX7_distance_35 : decode cX7_distance 35 = .ok (.invokevirtual 36, 3) := by decide +kernel
theorem dX7_distance_38 : decode cX7_distance 38 = .ok (.bipush (-9), 2) := by decide +kernel
theorem dX7_distance_40 : decode cX7_distance 40 = .ok (.if_icmp .ne 32, 3) := by decide +kernel
theorem dX7_distance_43 : decode cX7_distance 43 = .ok (.aload_n 0, 1) := by decide +kernel
theorem dX7_distance_44 : decode cX7_distance 44 = .ok (.aload_n 0, 1) := by decide +kernel
theorem dX7_distance_45 : decode cX7_distance 45 = .ok (.getfield 15, 3) := by decide +kernel
theorem dX7_distance_48 : decode cX7_distance 48 = .ok (.aload_n 0, 1) := by decide +kernel
theorem dX7_distance_49 : decode cX7_distance 49 = .ok (.getfield 30, 3) := by decide +kernel
theorem dX7_distance_52 : decode cX7_distance 52 = .ok (.iaload, 1) := by decide +kernel
theorem dX7_distance_53 : decode cX7_distance 53 = .ok (.invokevirtual 40, 3) := by decide +kernel
theorem dX7_distance_56 : decode cX7_distance 56 = .ok (.aload_n 0, 1) := by decide +kernel
theorem dX7_distance_57 : decode cX7_distance 57 = .ok (.dup, 1) := by decide +kernel
theorem dX7_distance_58 : decode cX7_distance 58 = .ok (.getfield 30, 3) := by decide +kernel
theorem dX7_distance_61 : decode cX7_distance 61 = .ok (.iconst 1, 1) := by decide +kernel
theorem dX7_distance_62 : decode cX7_distance 62 = .ok (.iadd, 1) := by decide +kernel
theorem dX7_distance_63 : decode cX7_distance 63 = .ok (.putfield 30, 3) := by decide +kernel
theorem dX7_distance_66 : decode cX7_distance 66 = .ok (.iinc 3 1, 3) := by decide +kernel
theorem dX7_distance_69 : decode cX7_distance 69 = .ok (.goto (-54), 3) := by decide +kernel
theorem dX7_distance_72 : decode cX7_distance 72 = .ok (.aload_n 0, 1) := by decide +kernel
theorem dX7_distance_73 : decode cX7_distance 73 = .ok (.iload_n 1, 1) := by decide +kernel
theorem dX7_distance_74 : decode cX7_distance 74 = .ok (.invokevirtual 36, 3) := by decide +kernel
theorem dX7_distance_77 : decode cX7_distance 77 = .ok (.ireturn, 1) := by decide +kernel
theorem dX7_aimAt_0 : decode cX7_aimAt 0 = .ok (.aload_n 0, 1) := by decide +kernel
theorem dX7_aimAt_1 : decode cX7_aimAt 1 = .ok (.iload_n 1, 1) := by decide +kernel
theorem dX7_aimAt_2 : decode cX7_aimAt 2 = .ok (.putfield 18, 3) := by decide +kernel
theorem dX7_aimAt_5 : decode cX7_aimAt 5 = .ok (.aload_n 0, 1) := by decide +kernel
theorem dX7_aimAt_6 : decode cX7_aimAt 6 = .ok (.getfield 9, 3) := by decide +kernel
theorem dX7_aimAt_9 : decode cX7_aimAt 9 = .ok (.bipush (-9), 2) := by decide +kernel
theorem dX7_aimAt_11 : decode cX7_aimAt 11 = .ok (.invokestatic 43, 3) := by decide +kernel
theorem dX7_aimAt_14 : decode cX7_aimAt 14 = .ok (.aload_n 0, 1) := by decide +kernel
theorem dX7_aimAt_15 : decode cX7_aimAt 15 = .ok (.iconst 0, 1) := by decide +kernel
theorem dX7_aimAt_16 : decode cX7_aimAt 16 = .ok (.putfield 30, 3) := by decide +kernel
theorem dX7_aimAt_19 : decode cX7_aimAt 19 = .ok (.aload_n 0, 1) := by decide +kernel
theorem dX7_aimAt_20 : decode cX7_aimAt 20 = .ok (.iconst 0, 1) := by decide +kernel
theorem dX7_aimAt_21 : decode cX7_aimAt 21 = .ok (.putfield 33, 3) := by decide +kernel
theorem dX7_aimAt_24 : decode cX7_aimAt 24 = .ok (.aload_n 0, 1) := by decide +kernel
theorem dX7_aimAt_25 : decode cX7_aimAt 25 = .ok (.iload_n 1, 1) := by decide +kernel
theorem dX7_aimAt_26 : decode cX7_aimAt 26 = .ok (.iconst 0, 1) := by decide +kernel
theorem dX7_aimAt_27 : decode cX7_aimAt 27 = .ok (.invokevirtual 49, 3) := by decide +kernel
theorem dX7_aimAt_30 : decode cX7_aimAt 30 = .ok (.return_, 1) := by decide +kernel
theorem dX7_distanceOf_0 : decode cX7_distanceOf 0 = .ok (.aload_n 0, 1) := by decide +kernel
theorem dX7_distanceOf_1 : decode cX7_distanceOf 1 = .ok (.getfield 9, 3) := by decide +kernel
theorem dX7_distanceOf_4 : decode cX7_distanceOf 4 = .ok (.iload_n 1, 1) := by decide +kernel
theorem dX7_distanceOf_5 : decode cX7_distanceOf 5 = .ok (.sipush 4095, 3) := by decide +kernel
theorem dX7_distanceOf_8 : decode cX7_distanceOf 8 = .ok (.iand, 1) := by decide +kernel
theorem dX7_distanceOf_9 : decode cX7_distanceOf 9 = .ok (.iaload, 1) := by decide +kernel
theorem dX7_distanceOf_10 : decode cX7_distanceOf 10 = .ok (.ireturn, 1) := by decide +kernel
theorem dX7_enqueue_0 : decode cX7_enqueue 0 = .ok (.aload_n 0, 1) := by decide +kernel
theorem dX7_enqueue_1 : decode cX7_enqueue 1 = .ok (.getfield 33, 3) := by decide +kernel
theorem dX7_enqueue_4 : decode cX7_enqueue 4 = .ok (.sipush 4096, 3) := by decide +kernel
theorem dX7_enqueue_7 : decode cX7_enqueue 7 = .ok (.if_icmp .ge 34, 3) := by decide +kernel
theorem dX7_enqueue_10 : decode cX7_enqueue 10 = .ok (.aload_n 0, 1) := by decide +kernel
theorem dX7_enqueue_11 : decode cX7_enqueue 11 = .ok (.getfield 9, 3) := by decide +kernel
theorem dX7_enqueue_14 : decode cX7_enqueue 14 = .ok (.iload_n 1, 1) := by decide +kernel
theorem dX7_enqueue_15 : decode cX7_enqueue 15 = .ok (.sipush 4095, 3) := by decide +kernel
theorem dX7_enqueue_18 : decode cX7_enqueue 18 = .ok (.iand, 1) := by decide +kernel
theorem dX7_enqueue_19 : decode cX7_enqueue 19 = .ok (.iload_n 2, 1) := by decide +kernel
theorem dX7_enqueue_20 : decode cX7_enqueue 20 = .ok (.iastore, 1) := by decide +kernel
theorem dX7_enqueue_21 : decode cX7_enqueue 21 = .ok (.aload_n 0, 1) := by decide +kernel
theorem dX7_enqueue_22 : decode cX7_enqueue 22 = .ok (.getfield 15, 3) := by decide +kernel
theorem dX7_enqueue_25 : decode cX7_enqueue 25 = .ok (.aload_n 0, 1) := by decide +kernel
theorem dX7_enqueue_26 : decode cX7_enqueue 26 = .ok (.getfield 33, 3) := by decide +kernel
theorem dX7_enqueue_29 : decode cX7_enqueue 29 = .ok (.iload_n 1, 1) := by decide +kernel
theorem dX7_enqueue_30 : decode cX7_enqueue 30 = .ok (.iastore, 1) := by decide +kernel
theorem dX7_enqueue_31 : decode cX7_enqueue 31 = .ok (.aload_n 0, 1) := by decide +kernel
theorem dX7_enqueue_32 : decode cX7_enqueue 32 = .ok (.dup, 1) := by decide +kernel
theorem dX7_enqueue_33 : decode cX7_enqueue 33 = .ok (.getfield 33, 3) := by decide +kernel
theorem dX7_enqueue_36 : decode cX7_enqueue 36 = .ok (.iconst 1, 1) := by decide +kernel
theorem dX7_enqueue_37 : decode cX7_enqueue 37 = .ok (.iadd, 1) := by decide +kernel
theorem dX7_enqueue_38 : decode cX7_enqueue 38 = .ok (.putfield 33, 3) := by decide +kernel
theorem dX7_enqueue_41 : decode cX7_enqueue 41 = .ok (.return_, 1) := by decide +kernel
theorem dX7_reachFrom_0 : decode cX7_reachFrom 0 = .ok (.aload_n 0, 1) := by decide +kernel
theorem dX7_reachFrom_1 : decode cX7_reachFrom 1 = .ok (.iload_n 1, 1) := by decide +kernel
theorem dX7_reachFrom_2 : decode cX7_reachFrom 2 = .ok (.invokevirtual 36, 3) := by decide +kernel
theorem dX7_reachFrom_5 : decode cX7_reachFrom 5 = .ok (.iconst 1, 1) := by decide +kernel
theorem dX7_reachFrom_6 : decode cX7_reachFrom 6 = .ok (.iadd, 1) := by decide +kernel
theorem dX7_reachFrom_7 : decode cX7_reachFrom 7 = .ok (.istore_n 2, 1) := by decide +kernel
theorem dX7_reachFrom_8 : decode cX7_reachFrom 8 = .ok (.iconst 0, 1) := by decide +kernel
theorem dX7_reachFrom_9 : decode cX7_reachFrom 9 = .ok (.istore_n 3, 1) := by decide +kernel
theorem dX7_reachFrom_10 : decode cX7_reachFrom 10 = .ok (.iload_n 3, 1) := by decide +kernel
theorem dX7_reachFrom_11 : decode cX7_reachFrom 11 = .ok (.aload_n 0, 1) := by decide +kernel
theorem dX7_reachFrom_12 : decode cX7_reachFrom 12 = .ok (.getfield 22, 3) := by decide +kernel
theorem dX7_reachFrom_15 : decode cX7_reachFrom 15 = .ok (.getfield 53, 3) := by decide +kernel
theorem dX7_reachFrom_18 : decode cX7_reachFrom 18 = .ok (.if_icmp .ge 68, 3) := by decide +kernel
theorem dX7_reachFrom_21 : decode cX7_reachFrom 21 = .ok (.iconst 1, 1) := by decide +kernel
theorem dX7_reachFrom_22 : decode cX7_reachFrom 22 = .ok (.istore 4, 2) := by decide +kernel
theorem dX7_reachFrom_24 : decode cX7_reachFrom 24 = .ok (.iload 4, 2) := by decide +kernel
theorem dX7_reachFrom_26 : decode cX7_reachFrom 26 = .ok (.iconst 4, 1) := by decide +kernel
theorem dX7_reachFrom_27 : decode cX7_reachFrom 27 = .ok (.if_icmp .ge 53, 3) := by decide +kernel
theorem dX7_reachFrom_30 : decode cX7_reachFrom 30 = .ok (.iload_n 1, 1) := by decide +kernel
theorem dX7_reachFrom_31 : decode cX7_reachFrom 31 = .ok (.iload 4, 2) := by decide +kernel
theorem dX7_reachFrom_33 : decode cX7_reachFrom 33 = .ok (.iconst 2, 1) := by decide +kernel
theorem dX7_reachFrom_34 : decode cX7_reachFrom 34 = .ok (.iload_n 3, 1) := by decide +kernel
theorem dX7_reachFrom_35 : decode cX7_reachFrom 35 = .ok (.imul, 1) := by decide +kernel
theorem dX7_reachFrom_36 : decode cX7_reachFrom 36 = .ok (.ishl, 1) := by decide +kernel
theorem dX7_reachFrom_37 : decode cX7_reachFrom 37 = .ok (.ixor, 1) := by decide +kernel
theorem dX7_reachFrom_38 : decode cX7_reachFrom 38 = .ok (.istore 5, 2) := by decide +kernel
theorem dX7_reachFrom_40 : decode cX7_reachFrom 40 = .ok (.aload_n 0, 1) := by decide +kernel
theorem dX7_reachFrom_41 : decode cX7_reachFrom 41 = .ok (.iload 5, 2) := by decide +kernel
theorem dX7_reachFrom_43 : decode cX7_reachFrom 43 = .ok (.invokevirtual 36, 3) := by decide +kernel
theorem dX7_reachFrom_46 : decode cX7_reachFrom 46 = .ok (.bipush (-9), 2) := by decide +kernel
theorem dX7_reachFrom_48 : decode cX7_reachFrom 48 = .ok (.if_icmp .ne 26, 3) := by decide +kernel
theorem dX7_reachFrom_51 : decode cX7_reachFrom 51 = .ok (.aload_n 0, 1) := by decide +kernel
theorem dX7_reachFrom_52 : decode cX7_reachFrom 52 = .ok (.getfield 22, 3) := by decide +kernel
theorem dX7_reachFrom_55 : decode cX7_reachFrom 55 = .ok (.getfield 58, 3) := by decide +kernel
theorem dX7_reachFrom_58 : decode cX7_reachFrom 58 = .ok (.iload 5, 2) := by decide +kernel
theorem dX7_reachFrom_60 : decode cX7_reachFrom 60 = .ok (.iload_n 1, 1) := by decide +kernel
theorem dX7_reachFrom_61 : decode cX7_reachFrom 61 = .ok (.invokevirtual 62, 3) := by decide +kernel
theorem dX7_reachFrom_64 : decode cX7_reachFrom 64 = .ok (.ifCond .ne 10, 3) := by decide +kernel
theorem dX7_reachFrom_67 : decode cX7_reachFrom 67 = .ok (.aload_n 0, 1) := by decide +kernel
theorem dX7_reachFrom_68 : decode cX7_reachFrom 68 = .ok (.iload 5, 2) := by decide +kernel
theorem dX7_reachFrom_70 : decode cX7_reachFrom 70 = .ok (.iload_n 2, 1) := by decide +kernel
theorem dX7_reachFrom_71 : decode cX7_reachFrom 71 = .ok (.invokevirtual 49, 3) := by decide +kernel
theorem dX7_reachFrom_74 : decode cX7_reachFrom 74 = .ok (.iinc 4 1, 3) := by decide +kernel
theorem dX7_reachFrom_77 : decode cX7_reachFrom 77 = .ok (.goto (-53), 3) := by decide +kernel
theorem dX7_reachFrom_80 : decode cX7_reachFrom 80 = .ok (.iinc 3 1, 3) := by decide +kernel
theorem dX7_reachFrom_83 : decode cX7_reachFrom 83 = .ok (.goto (-73), 3) := by decide +kernel
theorem dX7_reachFrom_86 : decode cX7_reachFrom 86 = .ok (.return_, 1) := by decide +kernel
theorem dX7_changeOfBest_0 : decode cX7_changeOfBest 0 = .ok (.iload_n 3, 1) := by decide +kernel
theorem dX7_changeOfBest_1 : decode cX7_changeOfBest 1 = .ok (.aload_n 0, 1) := by decide +kernel
theorem dX7_changeOfBest_2 : decode cX7_changeOfBest 2 = .ok (.iload_n 1, 1) := by decide +kernel
theorem dX7_changeOfBest_3 : decode cX7_changeOfBest 3 = .ok (.iload_n 2, 1) := by decide +kernel
theorem dX7_changeOfBest_4 : decode cX7_changeOfBest 4 = .ok (.invokevirtual 68, 3) := by decide +kernel
theorem dX7_changeOfBest_7 : decode cX7_changeOfBest 7 = .ok (.if_icmp .lt 6, 3) := by decide +kernel
theorem dX7_changeOfBest_10 : decode cX7_changeOfBest 10 = .ok (.bipush (-9), 2) := by decide +kernel
theorem dX7_changeOfBest_12 : decode cX7_changeOfBest 12 = .ok (.ireturn, 1) := by decide +kernel
theorem dX7_changeOfBest_13 : decode cX7_changeOfBest 13 = .ok (.iload_n 1, 1) := by decide +kernel
theorem dX7_changeOfBest_14 : decode cX7_changeOfBest 14 = .ok (.istore 4, 2) := by decide +kernel
theorem dX7_changeOfBest_16 : decode cX7_changeOfBest 16 = .ok (.iconst 0, 1) := by decide +kernel
theorem dX7_changeOfBest_17 : decode cX7_changeOfBest 17 = .ok (.istore 5, 2) := by decide +kernel
theorem dX7_changeOfBest_19 : decode cX7_changeOfBest 19 = .ok (.iload 5, 2) := by decide +kernel
theorem dX7_changeOfBest_21 : decode cX7_changeOfBest 21 = .ok (.iload_n 3, 1) := by decide +kernel
theorem dX7_changeOfBest_22 : decode cX7_changeOfBest 22 = .ok (.if_icmp .ge 22, 3) := by decide +kernel
theorem dX7_changeOfBest_25 : decode cX7_changeOfBest 25 = .ok (.iload 4, 2) := by decide +kernel
theorem dX7_changeOfBest_27 : decode cX7_changeOfBest 27 = .ok (.aload_n 0, 1) := by decide +kernel
theorem dX7_changeOfBest_28 : decode cX7_changeOfBest 28 = .ok (.iload 4, 2) := by decide +kernel
theorem dX7_changeOfBest_30 : decode cX7_changeOfBest 30 = .ok (.invokevirtual 71, 3) := by decide +kernel
theorem dX7_changeOfBest_33 : decode cX7_changeOfBest 33 = .ok (.invokestatic 74, 3) := by decide +kernel
theorem dX7_changeOfBest_36 : decode cX7_changeOfBest 36 = .ok (.istore 4, 2) := by decide +kernel
theorem dX7_changeOfBest_38 : decode cX7_changeOfBest 38 = .ok (.iinc 5 1, 3) := by decide +kernel
theorem dX7_changeOfBest_41 : decode cX7_changeOfBest 41 = .ok (.goto (-22), 3) := by decide +kernel
theorem dX7_changeOfBest_44 : decode cX7_changeOfBest 44 = .ok (.aload_n 0, 1) := by decide +kernel
theorem dX7_changeOfBest_45 : decode cX7_changeOfBest 45 = .ok (.iload 4, 2) := by decide +kernel
theorem dX7_changeOfBest_47 : decode cX7_changeOfBest 47 = .ok (.invokevirtual 71, 3) := by decide +kernel
theorem dX7_changeOfBest_50 : decode cX7_changeOfBest 50 = .ok (.ireturn, 1) := by decide +kernel
theorem dX7_afterChange_0 : decode cX7_afterChange 0 = .ok (.iload_n 0, 1) := by decide +kernel
theorem dX7_afterChange_1 : decode cX7_afterChange 1 = .ok (.iload_n 1, 1) := by decide +kernel
theorem dX7_afterChange_2 : decode cX7_afterChange 2 = .ok (.iconst 2, 1) := by decide +kernel
theorem dX7_afterChange_3 : decode cX7_afterChange 3 = .ok (.ishr, 1) := by decide +kernel
theorem dX7_afterChange_4 : decode cX7_afterChange 4 = .ok (.iload_n 1, 1) := by decide +kernel
theorem dX7_afterChange_5 : decode cX7_afterChange 5 = .ok (.iconst 3, 1) := by decide +kernel
theorem dX7_afterChange_6 : decode cX7_afterChange 6 = .ok (.iand, 1) := by decide +kernel
theorem dX7_afterChange_7 : decode cX7_afterChange 7 = .ok (.invokestatic 77, 3) := by decide +kernel
theorem dX7_afterChange_10 : decode cX7_afterChange 10 = .ok (.ireturn, 1) := by decide +kernel
theorem dX7_bestChange_0 : decode cX7_bestChange 0 = .ok (.aload_n 0, 1) := by decide +kernel
theorem dX7_bestChange_1 : decode cX7_bestChange 1 = .ok (.iload_n 1, 1) := by decide +kernel
theorem dX7_bestChange_2 : decode cX7_bestChange 2 = .ok (.invokevirtual 36, 3) := by decide +kernel
theorem dX7_bestChange_5 : decode cX7_bestChange 5 = .ok (.iconst 1, 1) := by decide +kernel
theorem dX7_bestChange_6 : decode cX7_bestChange 6 = .ok (.isub, 1) := by decide +kernel
theorem dX7_bestChange_7 : decode cX7_bestChange 7 = .ok (.istore_n 2, 1) := by decide +kernel
theorem dX7_bestChange_8 : decode cX7_bestChange 8 = .ok (.iconst 0, 1) := by decide +kernel
theorem dX7_bestChange_9 : decode cX7_bestChange 9 = .ok (.istore_n 3, 1) := by decide +kernel
theorem dX7_bestChange_10 : decode cX7_bestChange 10 = .ok (.iload_n 3, 1) := by decide +kernel
theorem dX7_bestChange_11 : decode cX7_bestChange 11 = .ok (.iconst 4, 1) := by decide +kernel
theorem dX7_bestChange_12 : decode cX7_bestChange 12 = .ok (.aload_n 0, 1) := by decide +kernel
theorem dX7_bestChange_13 : decode cX7_bestChange 13 = .ok (.getfield 22, 3) := by decide +kernel
theorem dX7_bestChange_16 : decode cX7_bestChange 16 = .ok (.getfield 53, 3) := by decide +kernel
theorem dX7_bestChange_19 : decode cX7_bestChange 19 = .ok (.imul, 1) := by decide +kernel
theorem dX7_bestChange_20 : decode cX7_bestChange 20 = .ok (.if_icmp .ge 44, 3) := by decide +kernel
theorem dX7_bestChange_23 : decode cX7_bestChange 23 = .ok (.iload_n 1, 1) := by decide +kernel
theorem dX7_bestChange_24 : decode cX7_bestChange 24 = .ok (.iload_n 3, 1) := by decide +kernel
theorem dX7_bestChange_25 : decode cX7_bestChange 25 = .ok (.invokestatic 74, 3) := by decide +kernel
theorem dX7_bestChange_28 : decode cX7_bestChange 28 = .ok (.istore 4, 2) := by decide +kernel
theorem dX7_bestChange_30 : decode cX7_bestChange 30 = .ok (.aload_n 0, 1) := by decide +kernel
theorem dX7_bestChange_31 : decode cX7_bestChange 31 = .ok (.iload 4, 2) := by decide +kernel
theorem dX7_bestChange_33 : decode cX7_bestChange 33 = .ok (.invokevirtual 36, 3) := by decide +kernel
theorem dX7_bestChange_36 : decode cX7_bestChange 36 = .ok (.iload_n 2, 1) := by decide +kernel
theorem dX7_bestChange_37 : decode cX7_bestChange 37 = .ok (.if_icmp .ne 21, 3) := by decide +kernel
theorem dX7_bestChange_40 : decode cX7_bestChange 40 = .ok (.aload_n 0, 1) := by decide +kernel
theorem dX7_bestChange_41 : decode cX7_bestChange 41 = .ok (.getfield 22, 3) := by decide +kernel
theorem dX7_bestChange_44 : decode cX7_bestChange 44 = .ok (.getfield 58, 3) := by decide +kernel
theorem dX7_bestChange_47 : decode cX7_bestChange 47 = .ok (.iload_n 1, 1) := by decide +kernel
theorem dX7_bestChange_48 : decode cX7_bestChange 48 = .ok (.iload 4, 2) := by decide +kernel
theorem dX7_bestChange_50 : decode cX7_bestChange 50 = .ok (.invokevirtual 62, 3) := by decide +kernel
theorem dX7_bestChange_53 : decode cX7_bestChange 53 = .ok (.ifCond .ne 5, 3) := by decide +kernel
theorem dX7_bestChange_56 : decode cX7_bestChange 56 = .ok (.iload_n 3, 1) := by decide +kernel
theorem dX7_bestChange_57 : decode cX7_bestChange 57 = .ok (.ireturn, 1) := by decide +kernel
theorem dX7_bestChange_58 : decode cX7_bestChange 58 = .ok (.iinc 3 1, 3) := by decide +kernel
theorem dX7_bestChange_61 : decode cX7_bestChange 61 = .ok (.goto (-51), 3) := by decide +kernel
theorem dX7_bestChange_64 : decode cX7_bestChange 64 = .ok (.iconst 0, 1) := by decide +kernel
theorem dX7_bestChange_65 : decode cX7_bestChange 65 = .ok (.ireturn, 1) := by decide +kernel
theorem dX8_init_0 : decode cX8_init 0 = .ok (.aload_n 0, 1) := by decide +kernel
theorem dX8_init_1 : decode cX8_init 1 = .ok (.invokespecial 3, 3) := by decide +kernel
theorem dX8_init_4 : decode cX8_init 4 = .ok (.aload_n 0, 1) := by decide +kernel
theorem dX8_init_5 : decode cX8_init 5 = .ok (.sipush 160, 3) := by decide +kernel
theorem dX8_init_8 : decode cX8_init 8 = .ok (.newarray .char, 2) := by decide +kernel
theorem dX8_init_10 : decode cX8_init 10 = .ok (.putfield 9, 3) := by decide +kernel
theorem dX8_init_13 : decode cX8_init 13 = .ok (.aload_n 0, 1) := by decide +kernel
theorem dX8_init_14 : decode cX8_init 14 = .ok (.new 13, 3) := by decide +kernel
theorem dX8_init_17 : decode cX8_init 17 = .ok (.dup, 1) := by decide +kernel
theorem dX8_init_18 : decode cX8_init 18 = .ok (.aload_n 0, 1) := by decide +kernel
theorem dX8_init_19 : decode cX8_init 19 = .ok (.getfield 9, 3) := by decide +kernel
theorem dX8_init_22 : decode cX8_init 22 = .ok (.invokespecial 15, 3) := by decide +kernel
theorem dX8_init_25 : decode cX8_init 25 = .ok (.putfield 18, 3) := by decide +kernel
theorem dX8_init_28 : decode cX8_init 28 = .ok (.aload_n 0, 1) := by decide +kernel
theorem dX8_init_29 : decode cX8_init 29 = .ok (.new 22, 3) := by decide +kernel
theorem dX8_init_32 : decode cX8_init 32 = .ok (.dup, 1) := by decide +kernel
theorem dX8_init_33 : decode cX8_init 33 = .ok (.invokespecial 24, 3) := by decide +kernel
theorem dX8_init_36 : decode cX8_init 36 = .ok (.putfield 25, 3) := by decide +kernel
theorem dX8_init_39 : decode cX8_init 39 = .ok (.aload_n 0, 1) := by decide +kernel
theorem dX8_init_40 : decode cX8_init 40 = .ok (.new 29, 3) := by decide +kernel
theorem dX8_init_43 : decode cX8_init 43 = .ok (.dup, 1) := by decide +kernel
theorem dX8_init_44 : decode cX8_init 44 = .ok (.aload_n 0, 1) := by decide +kernel
theorem dX8_init_45 : decode cX8_init 45 = .ok (.getfield 25, 3) := by decide +kernel
theorem dX8_init_48 : decode cX8_init 48 = .ok (.invokespecial 31, 3) := by decide +kernel
theorem dX8_init_51 : decode cX8_init 51 = .ok (.putfield 34, 3) := by decide +kernel
theorem dX8_init_54 : decode cX8_init 54 = .ok (.aload_n 0, 1) := by decide +kernel
theorem dX8_init_55 : decode cX8_init 55 = .ok (.new 38, 3) := by decide +kernel
theorem dX8_init_58 : decode cX8_init 58 = .ok (.dup, 1) := by decide +kernel
theorem dX8_init_59 : decode cX8_init 59 = .ok (.aload_n 0, 1) := by decide +kernel
theorem dX8_init_60 : decode cX8_init 60 = .ok (.getfield 25, 3) := by decide +kernel
theorem dX8_init_63 : decode cX8_init 63 = .ok (.invokespecial 40, 3) := by decide +kernel
theorem dX8_init_66 : decode cX8_init 66 = .ok (.putfield 41, 3) := by decide +kernel
theorem dX8_init_69 : decode cX8_init 69 = .ok (.aload_n 0, 1) := by decide +kernel
theorem dX8_init_70 : decode cX8_init 70 = .ok (.new 38, 3) := by decide +kernel
theorem dX8_init_73 : decode cX8_init 73 = .ok (.dup, 1) := by decide +kernel
theorem dX8_init_74 : decode cX8_init 74 = .ok (.aload_n 0, 1) := by decide +kernel
theorem dX8_init_75 : decode cX8_init 75 = .ok (.getfield 25, 3) := by decide +kernel
theorem dX8_init_78 : decode cX8_init 78 = .ok (.invokespecial 40, 3) := by decide +kernel
theorem dX8_init_81 : decode cX8_init 81 = .ok (.putfield 45, 3) := by decide +kernel
theorem dX8_init_84 : decode cX8_init 84 = .ok (.aload_n 0, 1) := by decide +kernel
theorem dX8_init_85 : decode cX8_init 85 = .ok (.new 48, 3) := by decide +kernel
theorem dX8_init_88 : decode cX8_init 88 = .ok (.dup, 1) := by decide +kernel
theorem dX8_init_89 : decode cX8_init 89 = .ok (.aload_n 0, 1) := by decide +kernel
theorem dX8_init_90 : decode cX8_init 90 = .ok (.getfield 25, 3) := by decide +kernel
theorem dX8_init_93 : decode cX8_init 93 = .ok (.invokespecial 50, 3) := by decide +kernel
theorem dX8_init_96 : decode cX8_init 96 = .ok (.putfield 51, 3) := by decide +kernel
theorem dX8_init_99 : decode cX8_init 99 = .ok (.aload_n 0, 1) := by decide +kernel
theorem dX8_init_100 : decode cX8_init 100 = .ok (.iconst 2, 1) := by decide +kernel
theorem dX8_init_101 : decode cX8_init 101 = .ok (.anewarray 38, 3) := by decide +kernel
theorem dX8_init_104 : decode cX8_init 104 = .ok (.putfield 55, 3) := by decide +kernel
theorem dX8_init_107 : decode cX8_init 107 = .ok (.aload_n 0, 1) := by decide +kernel
theorem dX8_init_108 : decode cX8_init 108 = .ok (.iconst 2, 1) := by decide +kernel
theorem dX8_init_109 : decode cX8_init 109 = .ok (.newarray .boolean, 2) := by decide +kernel
theorem dX8_init_111 : decode cX8_init 111 = .ok (.putfield 59, 3) := by decide +kernel
theorem dX8_init_114 : decode cX8_init 114 = .ok (.iconst 0, 1) := by decide +kernel
theorem dX8_init_115 : decode cX8_init 115 = .ok (.istore_n 1, 1) := by decide +kernel
theorem dX8_init_116 : decode cX8_init 116 = .ok (.iload_n 1, 1) := by decide +kernel
theorem dX8_init_117 : decode cX8_init 117 = .ok (.iconst 2, 1) := by decide +kernel
theorem dX8_init_118 : decode cX8_init 118 = .ok (.if_icmp .ge 26, 3) := by decide +kernel
theorem dX8_init_121 : decode cX8_init 121 = .ok (.aload_n 0, 1) := by decide +kernel
theorem dX8_init_122 : decode cX8_init 122 = .ok (.getfield 55, 3) := by decide +kernel
theorem dX8_init_125 : decode cX8_init 125 = .ok (.iload_n 1, 1) := by decide +kernel
theorem dX8_init_126 : decode cX8_init 126 = .ok (.new 38, 3) := by decide +kernel
theorem dX8_init_129 : decode cX8_init 129 = .ok (.dup, 1) := by decide +kernel
theorem dX8_init_130 : decode cX8_init 130 = .ok (.aload_n 0, 1) := by decide +kernel
theorem dX8_init_131 : decode cX8_init 131 = .ok (.getfield 25, 3) := by decide +kernel
theorem dX8_init_134 : decode cX8_init 134 = .ok (.invokespecial 40, 3) := by decide +kernel
theorem dX8_init_137 : decode cX8_init 137 = .ok (.aastore, 1) := by decide +kernel
theorem dX8_init_138 : decode cX8_init 138 = .ok (.iinc 1 1, 3) := by decide +kernel
theorem dX8_init_141 : decode cX8_init 141 = .ok (.goto (-25), 3) := by decide +kernel
theorem dX8_init_144 : decode cX8_init 144 = .ok (.return_, 1) := by decide +kernel
theorem dX8_append_0 : decode cX8_append 0 = .ok (.iload_n 1, 1) := by decide +kernel
theorem dX8_append_1 : decode cX8_append 1 = .ok (.iconst 0, 1) := by decide +kernel
theorem dX8_append_2 : decode cX8_append 2 = .ok (.sipush 255, 3) := by decide +kernel
theorem dX8_append_5 : decode cX8_append 5 = .ok (.invokestatic 63, 3) := by decide +kernel
theorem dX8_append_8 : decode cX8_append 8 = .ok (.aload_n 0, 1) := by decide +kernel
theorem dX8_append_9 : decode cX8_append 9 = .ok (.getfield 67, 3) := by decide +kernel
theorem dX8_append_12 : decode cX8_append 12 = .ok (.sipush 160, 3) := by decide +kernel
theorem dX8_append_15 : decode cX8_append 15 = .ok (.if_icmp .lt 13, 3) := by decide +kernel
theorem dX8_append_18 : decode cX8_append 18 = .ok (.new 71, 3) := by decide +kernel
theorem dX8_append_21 : decode cX8_append 21 = .ok (.dup, 1) := by decide +kernel
theorem dX8_append_22 : decode cX8_append 22 = .ok (.ldc 73, 2) := by decide +kernel
theorem dX8_append_24 : decode cX8_append 24 = .ok (.invokespecial 75, 3) := by decide +kernel
theorem dX8_append_27 : decode cX8_append 27 = .ok (.athrow, 1) := by decide +kernel
theorem dX8_append_28 : decode cX8_append 28 = .ok (.aload_n 0, 1) := by decide +kernel
theorem dX8_append_29 : decode cX8_append 29 = .ok (.getfield 9, 3) := by decide +kernel
theorem dX8_append_32 : decode cX8_append 32 = .ok (.aload_n 0, 1) := by decide +kernel
theorem dX8_append_33 : decode cX8_append 33 = .ok (.getfield 67, 3) := by decide +kernel
theorem dX8_append_36 : decode cX8_append 36 = .ok (.iload_n 1, 1) := by decide +kernel
theorem dX8_append_37 : decode cX8_append 37 = .ok (.i2c, 1) := by decide +kernel
theorem dX8_append_38 : decode cX8_append 38 = .ok (.castore, 1) := by decide +kernel
theorem dX8_append_39 : decode cX8_append 39 = .ok (.aload_n 0, 1) := by decide +kernel
theorem dX8_append_40 : decode cX8_append 40 = .ok (.dup, 1) := by decide +kernel
theorem dX8_append_41 : decode cX8_append 41 = .ok (.getfield 67, 3) := by decide +kernel
theorem dX8_append_44 : decode cX8_append 44 = .ok (.iconst 1, 1) := by decide +kernel
theorem dX8_append_45 : decode cX8_append 45 = .ok (.iadd, 1) := by decide +kernel
theorem dX8_append_46 : decode cX8_append 46 = .ok (.putfield 67, 3) := by decide +kernel
theorem dX8_append_49 : decode cX8_append 49 = .ok (.aload_n 0, 1) := by decide +kernel
theorem dX8_append_50 : decode cX8_append 50 = .ok (.getfield 67, 3) := by decide +kernel
theorem dX8_append_53 : decode cX8_append 53 = .ok (.ireturn, 1) := by decide +kernel
theorem dX8_clearText_0 : decode cX8_clearText 0 = .ok (.aload_n 0, 1) := by decide +kernel
theorem dX8_clearText_1 : decode cX8_clearText 1 = .ok (.getfield 67, 3) := by decide +kernel
theorem dX8_clearText_4 : decode cX8_clearText 4 = .ok (.istore_n 1, 1) := by decide +kernel
theorem dX8_clearText_5 : decode cX8_clearText 5 = .ok (.aload_n 0, 1) := by decide +kernel
theorem dX8_clearText_6 : decode cX8_clearText 6 = .ok (.iconst 0, 1) := by decide +kernel
theorem dX8_clearText_7 : decode cX8_clearText 7 = .ok (.putfield 67, 3) := by decide +kernel
theorem dX8_clearText_10 : decode cX8_clearText 10 = .ok (.iload_n 1, 1) := by decide +kernel
theorem dX8_clearText_11 : decode cX8_clearText 11 = .ok (.ireturn, 1) := by decide +kernel
theorem dX8_errorPosition_0 : decode cX8_errorPosition 0 = .ok (.aload_n 0, 1) := by decide +kernel
theorem dX8_errorPosition_1 : decode cX8_errorPosition 1 = .ok (.getfield 18, 3) := by decide +kernel
theorem dX8_errorPosition_4 : decode cX8_errorPosition 4 = .ok (.aload_n 0, 1) := by decide +kernel
theorem dX8_errorPosition_5 : decode cX8_errorPosition 5 = .ok (.getfield 67, 3) := by decide +kernel
theorem dX8_errorPosition_8 : decode cX8_errorPosition 8 = .ok (.invokevirtual 78, 3) := by decide +kernel
theorem dX8_errorPosition_11 : decode cX8_errorPosition 11 = .ok (.ireturn, 1) := by decide +kernel
theorem dX8_load_0 : decode cX8_load 0 = .ok (.aload_n 0, 1) := by decide +kernel
theorem dX8_load_1 : decode cX8_load 1 = .ok (.getfield 18, 3) := by decide +kernel
theorem dX8_load_4 : decode cX8_load 4 = .ok (.aload_n 0, 1) := by decide +kernel
theorem dX8_load_5 : decode cX8_load 5 = .ok (.getfield 67, 3) := by decide +kernel
theorem dX8_load_8 : decode cX8_load 8 = .ok (.invokevirtual 78, 3) := by decide +kernel
theorem dX8_load_11 : decode cX8_load 11 = .ok (.bipush (-9), 2) := by decide +kernel
theorem dX8_load_13 : decode cX8_load 13 = .ok (.if_icmp .eq 13, 3) := by decide +kernel
theorem dX8_load_16 : decode cX8_load 16 = .ok (.new 71, 3) := by decide +kernel
theorem dX8_load_19 : decode cX8_load 19 = .ok (.dup, 1) := by decide +kernel
theorem dX8_load_20 : decode cX8_load 20 = .ok (.ldc 82, 2) := by decide +kernel
theorem dX8_load_22 : decode cX8_load 22 = .ok (.invokespecial 75, 3) := by decide +kernel
theorem dX8_load_25 : decode cX8_load 25 = .ok (.athrow, 1) := by decide +kernel
theorem dX8_load_26 : decode cX8_load 26 = .ok (.aload_n 0, 1) := by decide +kernel
theorem dX8_load_27 : decode cX8_load 27 = .ok (.getfield 25, 3) := by decide +kernel
theorem dX8_load_30 : decode cX8_load 30 = .ok (.aload_n 0, 1) := by decide +kernel
theorem dX8_load_31 : decode cX8_load 31 = .ok (.getfield 18, 3) := by decide +kernel
theorem dX8_load_34 : decode cX8_load 34 = .ok (.invokevirtual 84, 3) := by decide +kernel
theorem dX8_load_37 : decode cX8_load 37 = .ok (.aload_n 0, 1) := by decide +kernel
theorem dX8_load_38 : decode cX8_load 38 = .ok (.getfield 41, 3) := by decide +kernel
theorem dX8_load_41 : decode cX8_load 41 = .ok (.aload_n 0, 1) := by decide +kernel
theorem dX8_load_42 : decode cX8_load 42 = .ok (.getfield 18, 3) := by decide +kernel
theorem dX8_load_45 : decode cX8_load 45 = .ok (.invokevirtual 88, 3) := by decide +kernel
theorem dX8_load_48 : decode cX8_load 48 = .ok (.aload_n 0, 1) := by decide +kernel
theorem dX8_load_49 : decode cX8_load 49 = .ok (.getfield 34, 3) := by decide +kernel
theorem dX8_load_52 : decode cX8_load 52 = .ok (.invokevirtual 89, 3) := by decide +kernel
theorem dX8_load_55 : decode cX8_load 55 = .ok (.aload_n 0, 1) := by decide +kernel
theorem dX8_load_56 : decode cX8_load 56 = .ok (.getfield 51, 3) := by decide +kernel
theorem dX8_load_59 : decode cX8_load 59 = .ok (.invokevirtual 92, 3) := by decide +kernel
theorem dX8_load_62 : decode cX8_load 62 = .ok (.iconst 0, 1) := by decide +kernel
theorem dX8_load_63 : decode cX8_load 63 = .ok (.istore_n 1, 1) := by decide +kernel
theorem dX8_load_64 : decode cX8_load 64 = .ok (.iload_n 1, 1) := by decide +kernel
theorem dX8_load_65 : decode cX8_load 65 = .ok (.iconst 2, 1) := by decide +kernel
theorem dX8_load_66 : decode cX8_load 66 = .ok (.if_icmp .ge 16, 3) := by decide +kernel
theorem dX8_load_69 : decode cX8_load 69 = .ok (.aload_n 0, 1) := by decide +kernel
theorem dX8_load_70 : decode cX8_load 70 = .ok (.getfield 59, 3) := by decide +kernel
theorem dX8_load_73 : decode cX8_load 73 = .ok (.iload_n 1, 1) := by decide +kernel
theorem dX8_load_74 : decode cX8_load 74 = .ok (.iconst 0, 1) := by decide +kernel
theorem dX8_load_75 : decode cX8_load 75 = .ok (.bastore, 1) := by decide +kernel
theorem dX8_load_76 : decode cX8_load 76 = .ok (.iinc 1 1, 3) := by decide +kernel
theorem dX8_load_79 : decode cX8_load 79 = .ok (.goto (-15), 3) := by decide +kernel
theorem dX8_load_82 : decode cX8_load 82 = .ok (.aload_n 0, 1) := by decide +kernel
theorem dX8_load_83 : decode cX8_load 83 = .ok (.getfield 25, 3) := by decide +kernel
theorem dX8_load_86 : decode cX8_load 86 = .ok (.getfield 93, 3) := by decide +kernel
theorem dX8_load_89 : decode cX8_load 89 = .ok (.getfield 97, 3) := by decide +kernel
theorem dX8_load_92 : decode cX8_load 92 = .ok (.ireturn, 1) := by decide +kernel
theorem dX8_about_0 : decode cX8_about 0 = .ok (.iload_n 1, 1) := by decide +kernel
theorem dX8_about_1 : decode cX8_about 1 = .ok (.tableswitch 114 0 7 #[47, 55, 63, 74, 82, 90, 98, 106], 47) := by decide +kernel
theorem dX8_about_48 : decode cX8_about 48 = .ok (.aload_n 0, 1) := by decide +kernel
theorem dX8_about_49 : decode cX8_about 49 = .ok (.getfield 25, 3) := by decide +kernel
theorem dX8_about_52 : decode cX8_about 52 = .ok (.getfield 102, 3) := by decide +kernel
theorem dX8_about_55 : decode cX8_about 55 = .ok (.ireturn, 1) := by decide +kernel
theorem dX8_about_56 : decode cX8_about 56 = .ok (.aload_n 0, 1) := by decide +kernel
theorem dX8_about_57 : decode cX8_about 57 = .ok (.getfield 25, 3) := by decide +kernel
theorem dX8_about_60 : decode cX8_about 60 = .ok (.getfield 105, 3) := by decide +kernel
theorem dX8_about_63 : decode cX8_about 63 = .ok (.ireturn, 1) := by decide +kernel
theorem dX8_about_64 : decode cX8_about 64 = .ok (.aload_n 0, 1) := by decide +kernel
theorem dX8_about_65 : decode cX8_about 65 = .ok (.getfield 25, 3) := by decide +kernel
theorem dX8_about_68 : decode cX8_about 68 = .ok (.getfield 93, 3) := by decide +kernel
theorem dX8_about_71 : decode cX8_about 71 = .ok (.getfield 97, 3) := by decide +kernel
theorem dX8_about_74 : decode cX8_about 74 = .ok (.ireturn, 1) := by decide +kernel
theorem dX8_about_75 : decode cX8_about 75 = .ok (.aload_n 0, 1) := by decide +kernel
theorem dX8_about_76 : decode cX8_about 76 = .ok (.getfield 25, 3) := by decide +kernel
theorem dX8_about_79 : decode cX8_about 79 = .ok (.getfield 108, 3) := by decide +kernel
theorem dX8_about_82 : decode cX8_about 82 = .ok (.ireturn, 1) := by decide +kernel
theorem dX8_about_83 : decode cX8_about 83 = .ok (.aload_n 0, 1) := by decide +kernel
theorem dX8_about_84 : decode cX8_about 84 = .ok (.getfield 25, 3) := by decide +kernel
theorem dX8_about_87 : decode cX8_about 87 = .ok (.getfield 111, 3) := by decide +kernel
theorem dX8_about_90 : decode cX8_about 90 = .ok (.ireturn, 1) := by decide +kernel
theorem dX8_about_91 : decode cX8_about 91 = .ok (.aload_n 0, 1) := by decide +kernel
theorem dX8_about_92 : decode cX8_about 92 = .ok (.getfield 41, 3) := by decide +kernel
theorem dX8_about_95 : decode cX8_about 95 = .ok (.getfield 114, 3) := by decide +kernel
theorem dX8_about_98 : decode cX8_about 98 = .ok (.ireturn, 1) := by decide +kernel
theorem dX8_about_99 : decode cX8_about 99 = .ok (.aload_n 0, 1) := by decide +kernel
theorem dX8_about_100 : decode cX8_about 100 = .ok (.getfield 41, 3) := by decide +kernel
theorem dX8_about_103 : decode cX8_about 103 = .ok (.getfield 117, 3) := by decide +kernel
theorem dX8_about_106 : decode cX8_about 106 = .ok (.ireturn, 1) := by decide +kernel
theorem dX8_about_107 : decode cX8_about 107 = .ok (.aload_n 0, 1) := by decide +kernel
theorem dX8_about_108 : decode cX8_about 108 = .ok (.getfield 41, 3) := by decide +kernel
theorem dX8_about_111 : decode cX8_about 111 = .ok (.invokevirtual 120, 3) := by decide +kernel
theorem dX8_about_114 : decode cX8_about 114 = .ok (.ireturn, 1) := by decide +kernel
theorem dX8_about_115 : decode cX8_about 115 = .ok (.new 124, 3) := by decide +kernel
theorem dX8_about_118 : decode cX8_about 118 = .ok (.dup, 1) := by decide +kernel
theorem dX8_about_119 : decode cX8_about 119 = .ok (.ldc 126, 2) := by decide +kernel
theorem dX8_about_121 : decode cX8_about 121 = .ok (.invokespecial 128, 3) := by decide +kernel
theorem dX8_about_124 : decode cX8_about 124 = .ok (.athrow, 1) := by decide +kernel
theorem dX8_node_0 : decode cX8_node 0 = .ok (.aload_n 0, 1) := by decide +kernel
theorem dX8_node_1 : decode cX8_node 1 = .ok (.iload_n 1, 1) := by decide +kernel
theorem dX8_node_2 : decode cX8_node 2 = .ok (.invokevirtual 129, 3) := by decide +kernel
theorem dX8_node_5 : decode cX8_node 5 = .ok (.iload_n 2, 1) := by decide +kernel
theorem dX8_node_6 : decode cX8_node 6 = .ok (.iconst 0, 1) := by decide +kernel
theorem dX8_node_7 : decode cX8_node 7 = .ok (.bipush 6, 2) := by decide +kernel
theorem dX8_node_9 : decode cX8_node 9 = .ok (.invokestatic 63, 3) := by decide +kernel
theorem dX8_node_12 : decode cX8_node 12 = .ok (.aload_n 0, 1) := by decide +kernel
theorem dX8_node_13 : decode cX8_node 13 = .ok (.getfield 41, 3) := by decide +kernel
theorem dX8_node_16 : decode cX8_node 16 = .ok (.iload_n 1, 1) := by decide +kernel
theorem dX8_node_17 : decode cX8_node 17 = .ok (.iload_n 2, 1) := by decide +kernel
theorem dX8_node_18 : decode cX8_node 18 = .ok (.invokevirtual 133, 3) := by decide +kernel
theorem dX8_node_21 : decode cX8_node 21 = .ok (.ireturn, 1) := by decide +kernel
theorem dX8_version_0 : decode cX8_version 0 = .ok (.aload_n 0, 1) := by decide +kernel
theorem dX8_version_1 : decode cX8_version 1 = .ok (.iload_n 1, 1) := by decide +kernel
theorem dX8_version_2 : decode cX8_version 2 = .ok (.invokevirtual 129, 3) := by decide +kernel
theorem dX8_version_5 : decode cX8_version 5 = .ok (.aload_n 0, 1) := by decide +kernel
theorem dX8_version_6 : decode cX8_version 6 = .ok (.iload_n 2, 1) := by decide +kernel
theorem dX8_version_7 : decode cX8_version 7 = .ok (.invokevirtual 137, 3) := by decide +kernel
theorem dX8_version_10 : decode cX8_version 10 = .ok (.iload_n 3, 1) := by decide +kernel
theorem dX8_version_11 : decode cX8_version 11 = .ok (.ifCond .eq 15, 3) := by decide +kernel
theorem dX8_version_14 : decode cX8_version 14 = .ok (.aload_n 0, 1) := by decide +kernel
theorem dX8_version_15 : decode cX8_version 15 = .ok (.getfield 41, 3) := by decide +kernel
theorem dX8_version_18 : decode cX8_version 18 = .ok (.getfield 140, 3) := by decide +kernel
theorem dX8_version_21 : decode cX8_version 21 = .ok (.iload_n 1, 1) := by decide +kernel
theorem dX8_version_22 : decode cX8_version 22 = .ok (.iaload, 1) := by decide +kernel
theorem dX8_version_23 : decode cX8_version 23 = .ok (.goto 12, 3) := by decide +kernel
theorem dX8_version_26 : decode cX8_version 26 = .ok (.aload_n 0, 1) := by decide +kernel
theorem dX8_version_27 : decode cX8_version 27 = .ok (.getfield 41, 3) := by decide +kernel
theorem dX8_version_30 : decode cX8_version 30 = .ok (.getfield 144, 3) := by decide +kernel
theorem dX8_version_33 : decode cX8_version 33 = .ok (.iload_n 1, 1) := by decide +kernel
theorem dX8_version_34 : decode cX8_version 34 = .ok (.iaload, 1) := by decide +kernel
theorem dX8_version_35 : decode cX8_version 35 = .ok (.iload_n 2, 1) := by decide +kernel
theorem dX8_version_36 : decode cX8_version 36 = .ok (.invokestatic 147, 3) := by decide +kernel
theorem dX8_version_39 : decode cX8_version 39 = .ok (.ireturn, 1) := by decide +kernel
theorem dX8_rule_0 : decode cX8_rule 0 = .ok (.aload_n 0, 1) := by decide +kernel
theorem dX8_rule_1 : decode cX8_rule 1 = .ok (.iload_n 1, 1) := by decide +kernel
theorem dX8_rule_2 : decode cX8_rule 2 = .ok (.invokevirtual 152, 3) := by decide +kernel
theorem dX8_rule_5 : decode cX8_rule 5 = .ok (.iload_n 2, 1) := by decide +kernel
theorem dX8_rule_6 : decode cX8_rule 6 = .ok (.iconst 0, 1) := by decide +kernel
theorem dX8_rule_7 : decode cX8_rule 7 = .ok (.iconst 4, 1) := by decide +kernel
theorem dX8_rule_8 : decode cX8_rule 8 = .ok (.invokestatic 63, 3) := by decide +kernel
theorem dX8_rule_11 : decode cX8_rule 11 = .ok (.aload_n 0, 1) := by decide +kernel
theorem dX8_rule_12 : decode cX8_rule 12 = .ok (.getfield 25, 3) := by decide +kernel
theorem dX8_rule_15 : decode cX8_rule 15 = .ok (.getfield 93, 3) := by decide +kernel
theorem dX8_rule_18 : decode cX8_rule 18 = .ok (.iload_n 1, 1) := by decide +kernel
theorem dX8_rule_19 : decode cX8_rule 19 = .ok (.iload_n 2, 1) := by decide +kernel
theorem dX8_rule_20 : decode cX8_rule 20 = .ok (.invokevirtual 155, 3) := by decide +kernel
theorem dX8_rule_23 : decode cX8_rule 23 = .ok (.ireturn, 1) := by decide +kernel
theorem dX8_approvals_0 : decode cX8_approvals 0 = .ok (.aload_n 0, 1) := by decide +kernel
theorem dX8_approvals_1 : decode cX8_approvals 1 = .ok (.iload_n 1, 1) := by decide +kernel
theorem dX8_approvals_2 : decode cX8_approvals 2 = .ok (.invokevirtual 137, 3) := by decide +kernel
theorem dX8_approvals_5 : decode cX8_approvals 5 = .ok (.iload_n 2, 1) := by decide +kernel
theorem dX8_approvals_6 : decode cX8_approvals 6 = .ok (.iconst 0, 1) := by decide +kernel
theorem dX8_approvals_7 : decode cX8_approvals 7 = .ok (.iconst 3, 1) := by decide +kernel
theorem dX8_approvals_8 : decode cX8_approvals 8 = .ok (.invokestatic 63, 3) := by decide +kernel
theorem dX8_approvals_11 : decode cX8_approvals 11 = .ok (.aload_n 0, 1) := by decide +kernel
theorem dX8_approvals_12 : decode cX8_approvals 12 = .ok (.getfield 41, 3) := by decide +kernel
theorem dX8_approvals_15 : decode cX8_approvals 15 = .ok (.getfield 158, 3) := by decide +kernel
theorem dX8_approvals_18 : decode cX8_approvals 18 = .ok (.iload_n 1, 1) := by decide +kernel
theorem dX8_approvals_19 : decode cX8_approvals 19 = .ok (.iload_n 2, 1) := by decide +kernel
theorem dX8_approvals_20 : decode cX8_approvals 20 = .ok (.invokestatic 161, 3) := by decide +kernel
theorem dX8_approvals_23 : decode cX8_approvals 23 = .ok (.iaload, 1) := by decide +kernel
theorem dX8_approvals_24 : decode cX8_approvals 24 = .ok (.ireturn, 1) := by decide +kernel
theorem dX8_quorum_0 : decode cX8_quorum 0 = .ok (.aload_n 0, 1) := by decide +kernel
theorem dX8_quorum_1 : decode cX8_quorum 1 = .ok (.iload_n 1, 1) := by decide +kernel
theorem dX8_quorum_2 : decode cX8_quorum 2 = .ok (.invokevirtual 137, 3) := by decide +kernel
theorem dX8_quorum_5 : decode cX8_quorum 5 = .ok (.aload_n 0, 1) := by decide +kernel
theorem dX8_quorum_6 : decode cX8_quorum 6 = .ok (.getfield 41, 3) := by decide +kernel
theorem dX8_quorum_9 : decode cX8_quorum 9 = .ok (.getfield 164, 3) := by decide +kernel
theorem dX8_quorum_12 : decode cX8_quorum 12 = .ok (.iload_n 1, 1) := by decide +kernel
theorem dX8_quorum_13 : decode cX8_quorum 13 = .ok (.iaload, 1) := by decide +kernel
theorem dX8_quorum_14 : decode cX8_quorum 14 = .ok (.ireturn, 1) := by decide +kernel
theorem dX8_wish_0 : decode cX8_wish 0 = .ok (.aload_n 0, 1) := by decide +kernel
theorem dX8_wish_1 : decode cX8_wish 1 = .ok (.iload_n 1, 1) := by decide +kernel
theorem dX8_wish_2 : decode cX8_wish 2 = .ok (.invokevirtual 129, 3) := by decide +kernel
theorem dX8_wish_5 : decode cX8_wish 5 = .ok (.aload_n 0, 1) := by decide +kernel
theorem dX8_wish_6 : decode cX8_wish 6 = .ok (.iload_n 2, 1) := by decide +kernel
theorem dX8_wish_7 : decode cX8_wish 7 = .ok (.invokevirtual 137, 3) := by decide +kernel
theorem dX8_wish_10 : decode cX8_wish 10 = .ok (.iload_n 3, 1) := by decide +kernel
theorem dX8_wish_11 : decode cX8_wish 11 = .ok (.iconst 0, 1) := by decide +kernel
theorem dX8_wish_12 : decode cX8_wish 12 = .ok (.iconst 3, 1) := by decide +kernel
theorem dX8_wish_13 : decode cX8_wish 13 = .ok (.invokestatic 63, 3) := by decide +kernel
theorem dX8_wish_16 : decode cX8_wish 16 = .ok (.aload_n 0, 1) := by decide +kernel
theorem dX8_wish_17 : decode cX8_wish 17 = .ok (.getfield 51, 3) := by decide +kernel
theorem dX8_wish_20 : decode cX8_wish 20 = .ok (.aload_n 0, 1) := by decide +kernel
theorem dX8_wish_21 : decode cX8_wish 21 = .ok (.getfield 41, 3) := by decide +kernel
theorem dX8_wish_24 : decode cX8_wish 24 = .ok (.invokevirtual 167, 3) := by decide +kernel
theorem dX8_wish_27 : decode cX8_wish 27 = .ok (.aload_n 0, 1) := by decide +kernel
theorem dX8_wish_28 : decode cX8_wish 28 = .ok (.getfield 41, 3) := by decide +kernel
theorem dX8_wish_31 : decode cX8_wish 31 = .ok (.getfield 140, 3) := by decide +kernel
theorem dX8_wish_34 : decode cX8_wish 34 = .ok (.iload_n 1, 1) := by decide +kernel
theorem dX8_wish_35 : decode cX8_wish 35 = .ok (.iaload, 1) := by decide +kernel
theorem dX8_wish_36 : decode cX8_wish 36 = .ok (.iload_n 2, 1) := by decide +kernel
theorem dX8_wish_37 : decode cX8_wish 37 = .ok (.invokestatic 147, 3) := by decide +kernel
theorem dX8_wish_40 : decode cX8_wish 40 = .ok (.istore 4, 2) := by decide +kernel
theorem dX8_wish_42 : decode cX8_wish 42 = .ok (.aload_n 0, 1) := by decide +kernel
theorem dX8_wish_43 : decode cX8_wish 43 = .ok (.getfield 41, 3) := by decide +kernel
theorem dX8_wish_46 : decode cX8_wish 46 = .ok (.getfield 140, 3) := by decide +kernel
theorem dX8_wish_49 : decode cX8_wish 49 = .ok (.iload_n 1, 1) := by decide +kernel
theorem dX8_wish_50 : decode cX8_wish 50 = .ok (.aload_n 0, 1) := by decide +kernel
theorem dX8_wish_51 : decode cX8_wish 51 = .ok (.getfield 41, 3) := by decide +kernel
theorem dX8_wish_54 : decode cX8_wish 54 = .ok (.getfield 140, 3) := by decide +kernel
theorem dX8_wish_57 : decode cX8_wish 57 = .ok (.iload_n 1, 1) := by decide +kernel
theorem dX8_wish_58 : decode cX8_wish 58 = .ok (.iaload, 1) := by decide +kernel
theorem dX8_wish_59 : decode cX8_wish 59 = .ok (.iload_n 2, 1) := by decide +kernel
theorem dX8_wish_60 : decode cX8_wish 60 = .ok (.iload_n 3, 1) := by decide +kernel
theorem dX8_wish_61 : decode cX8_wish 61 = .ok (.invokestatic 171, 3) := by decide +kernel
theorem dX8_wish_64 : decode cX8_wish 64 = .ok (.iastore, 1) := by decide +kernel
theorem dX8_wish_65 : decode cX8_wish 65 = .ok (.iload 4, 2) := by decide +kernel
theorem dX8_wish_67 : decode cX8_wish 67 = .ok (.ireturn, 1) := by decide +kernel
theorem dX8_wishRing_0 : decode cX8_wishRing 0 = .ok (.aload_n 0, 1) := by decide +kernel
theorem dX8_wishRing_1 : decode cX8_wishRing 1 = .ok (.iload_n 2, 1) := by decide +kernel
theorem dX8_wishRing_2 : decode cX8_wishRing 2 = .ok (.invokevirtual 137, 3) := by decide +kernel
theorem dX8_wishRing_5 : decode cX8_wishRing 5 = .ok (.iload_n 1, 1) := by decide +kernel
theorem dX8_wishRing_6 : decode cX8_wishRing 6 = .ok (.iconst 0, 1) := by decide +kernel
theorem dX8_wishRing_7 : decode cX8_wishRing 7 = .ok (.iconst 2, 1) := by decide +kernel
theorem dX8_wishRing_8 : decode cX8_wishRing 8 = .ok (.invokestatic 63, 3) := by decide +kernel
theorem dX8_wishRing_11 : decode cX8_wishRing 11 = .ok (.iload_n 3, 1) := by decide +kernel
theorem dX8_wishRing_12 : decode cX8_wishRing 12 = .ok (.iconst 0, 1) := by decide +kernel
theorem dX8_wishRing_13 : decode cX8_wishRing 13 = .ok (.iconst 3, 1) := by decide +kernel
theorem dX8_wishRing_14 : decode cX8_wishRing 14 = .ok (.invokestatic 63, 3) := by decide +kernel
theorem dX8_wishRing_17 : decode cX8_wishRing 17 = .ok (.aload_n 0, 1) := by decide +kernel
theorem dX8_wishRing_18 : decode cX8_wishRing 18 = .ok (.getfield 51, 3) := by decide +kernel
theorem dX8_wishRing_21 : decode cX8_wishRing 21 = .ok (.aload_n 0, 1) := by decide +kernel
theorem dX8_wishRing_22 : decode cX8_wishRing 22 = .ok (.getfield 41, 3) := by decide +kernel
theorem dX8_wishRing_25 : decode cX8_wishRing 25 = .ok (.invokevirtual 167, 3) := by decide +kernel
theorem dX8_wishRing_28 : decode cX8_wishRing 28 = .ok (.iconst 0, 1) := by decide +kernel
theorem dX8_wishRing_29 : decode cX8_wishRing 29 = .ok (.istore 4, 2) := by decide +kernel
theorem dX8_wishRing_31 : decode cX8_wishRing 31 = .ok (.iconst 0, 1) := by decide +kernel
theorem dX8_wishRing_32 : decode cX8_wishRing 32 = .ok (.istore 5, 2) := by decide +kernel
theorem dX8_wishRing_34 : decode cX8_wishRing 34 = .ok (.iload 5, 2) := by decide +kernel
theorem dX8_wishRing_36 : decode cX8_wishRing 36 = .ok (.aload_n 0, 1) := by decide +kernel
theorem dX8_wishRing_37 : decode cX8_wishRing 37 = .ok (.getfield 25, 3) := by decide +kernel
theorem dX8_wishRing_40 : decode cX8_wishRing 40 = .ok (.getfield 102, 3) := by decide +kernel
theorem dX8_wishRing_43 : decode cX8_wishRing 43 = .ok (.if_icmp .ge 51, 3) := by decide +kernel
theorem dX8_wishRing_46 : decode cX8_wishRing 46 = .ok (.aload_n 0, 1) := by decide +kernel
theorem dX8_wishRing_47 : decode cX8_wishRing 47 = .ok (.getfield 25, 3) := by decide +kernel
theorem dX8_wishRing_50 : decode cX8_wishRing 50 = .ok (.getfield 175, 3) := by decide +kernel
theorem dX8_wishRing_53 : decode cX8_wishRing 53 = .ok (.iload 5, 2) := by decide +kernel
theorem dX8_wishRing_55 : decode cX8_wishRing 55 = .ok (.iaload, 1) := by decide +kernel
theorem dX8_wishRing_56 : decode cX8_wishRing 56 = .ok (.iload_n 1, 1) := by decide +kernel
theorem dX8_wishRing_57 : decode cX8_wishRing 57 = .ok (.if_icmp .ne 31, 3) := by decide +kernel
theorem dX8_wishRing_60 : decode cX8_wishRing 60 = .ok (.aload_n 0, 1) := by decide +kernel
theorem dX8_wishRing_61 : decode cX8_wishRing 61 = .ok (.getfield 41, 3) := by decide +kernel
theorem dX8_wishRing_64 : decode cX8_wishRing 64 = .ok (.getfield 140, 3) := by decide +kernel
theorem dX8_wishRing_67 : decode cX8_wishRing 67 = .ok (.iload 5, 2) := by decide +kernel
theorem dX8_wishRing_69 : decode cX8_wishRing 69 = .ok (.aload_n 0, 1) := by decide +kernel
theorem dX8_wishRing_70 : decode cX8_wishRing 70 = .ok (.getfield 41, 3) := by decide +kernel
theorem dX8_wishRing_73 : decode cX8_wishRing 73 = .ok (.getfield 140, 3) := by decide +kernel
theorem dX8_wishRing_76 : decode cX8_wishRing 76 = .ok (.iload 5, 2) := by decide +kernel
theorem dX8_wishRing_78 : decode cX8_wishRing 78 = .ok (.iaload, 1) := by decide +kernel
theorem dX8_wishRing_79 : decode cX8_wishRing 79 = .ok (.iload_n 2, 1) := by decide +kernel
theorem dX8_wishRing_80 : decode cX8_wishRing 80 = .ok (.iload_n 3, 1) := by decide +kernel
theorem dX8_wishRing_81 : decode cX8_wishRing 81 = .ok (.invokestatic 171, 3) := by decide +kernel
theorem dX8_wishRing_84 : decode cX8_wishRing 84 = .ok (.iastore, 1) := by decide +kernel
theorem dX8_wishRing_85 : decode cX8_wishRing 85 = .ok (.iinc 4 1, 3) := by decide +kernel
theorem dX8_wishRing_88 : decode cX8_wishRing 88 = .ok (.iinc 5 1, 3) := by decide +kernel
theorem dX8_wishRing_91 : decode cX8_wishRing 91 = .ok (.goto (-57), 3) := by decide +kernel
theorem dX8_wishRing_94 : decode cX8_wishRing 94 = .ok (.iload 4, 2) := by decide +kernel
theorem dX8_wishRing_96 : decode cX8_wishRing 96 = .ok (.ireturn, 1) := by decide +kernel
theorem dX8_drift_0 : decode cX8_drift 0 = .ok (.aload_n 0, 1) := by decide +kernel
theorem dX8_drift_1 : decode cX8_drift 1 = .ok (.iload_n 1, 1) := by decide +kernel
theorem dX8_drift_2 : decode cX8_drift 2 = .ok (.invokevirtual 129, 3) := by decide +kernel
theorem dX8_drift_5 : decode cX8_drift 5 = .ok (.aload_n 0, 1) := by decide +kernel
theorem dX8_drift_6 : decode cX8_drift 6 = .ok (.iload_n 2, 1) := by decide +kernel
theorem dX8_drift_7 : decode cX8_drift 7 = .ok (.invokevirtual 137, 3) := by decide +kernel
theorem dX8_drift_10 : decode cX8_drift 10 = .ok (.iload_n 3, 1) := by decide +kernel
theorem dX8_drift_11 : decode cX8_drift 11 = .ok (.iconst 0, 1) := by decide +kernel
theorem dX8_drift_12 : decode cX8_drift 12 = .ok (.iconst 3, 1) := by decide +kernel
theorem dX8_drift_13 : decode cX8_drift 13 = .ok (.invokestatic 63, 3) := by decide +kernel
theorem dX8_drift_16 : decode cX8_drift 16 = .ok (.aload_n 0, 1) := by decide +kernel
theorem dX8_drift_17 : decode cX8_drift 17 = .ok (.getfield 51, 3) := by decide +kernel
theorem dX8_drift_20 : decode cX8_drift 20 = .ok (.aload_n 0, 1) := by decide +kernel
theorem dX8_drift_21 : decode cX8_drift 21 = .ok (.getfield 41, 3) := by decide +kernel
theorem dX8_drift_24 : decode cX8_drift 24 = .ok (.invokevirtual 167, 3) := by decide +kernel
theorem dX8_drift_27 : decode cX8_drift 27 = .ok (.aload_n 0, 1) := by decide +kernel
theorem dX8_drift_28 : decode cX8_drift 28 = .ok (.getfield 41, 3) := by decide +kernel
theorem dX8_drift_31 : decode cX8_drift 31 = .ok (.getfield 144, 3) := by decide +kernel
theorem dX8_drift_34 : decode cX8_drift 34 = .ok (.iload_n 1, 1) := by decide +kernel
theorem dX8_drift_35 : decode cX8_drift 35 = .ok (.iaload, 1) := by decide +kernel
theorem dX8_drift_36 : decode cX8_drift 36 = .ok (.iload_n 2, 1) := by decide +kernel
theorem dX8_drift_37 : decode cX8_drift 37 = .ok (.invokestatic 147, 3) := by decide +kernel
theorem dX8_drift_40 : decode cX8_drift 40 = .ok (.istore 4, 2) := by decide +kernel
theorem dX8_drift_42 : decode cX8_drift 42 = .ok (.aload_n 0, 1) := by decide +kernel
theorem dX8_drift_43 : decode cX8_drift 43 = .ok (.getfield 41, 3) := by decide +kernel
theorem dX8_drift_46 : decode cX8_drift 46 = .ok (.getfield 144, 3) := by decide +kernel
theorem dX8_drift_49 : decode cX8_drift 49 = .ok (.iload_n 1, 1) := by decide +kernel
theorem dX8_drift_50 : decode cX8_drift 50 = .ok (.aload_n 0, 1) := by decide +kernel
theorem dX8_drift_51 : decode cX8_drift 51 = .ok (.getfield 41, 3) := by decide +kernel
theorem dX8_drift_54 : decode cX8_drift 54 = .ok (.getfield 144, 3) := by decide +kernel
theorem dX8_drift_57 : decode cX8_drift 57 = .ok (.iload_n 1, 1) := by decide +kernel
theorem dX8_drift_58 : decode cX8_drift 58 = .ok (.iaload, 1) := by decide +kernel
theorem dX8_drift_59 : decode cX8_drift 59 = .ok (.iload_n 2, 1) := by decide +kernel
theorem dX8_drift_60 : decode cX8_drift 60 = .ok (.iload_n 3, 1) := by decide +kernel
theorem dX8_drift_61 : decode cX8_drift 61 = .ok (.invokestatic 171, 3) := by decide +kernel
theorem dX8_drift_64 : decode cX8_drift 64 = .ok (.iastore, 1) := by decide +kernel
theorem dX8_drift_65 : decode cX8_drift 65 = .ok (.iload 4, 2) := by decide +kernel
theorem dX8_drift_67 : decode cX8_drift 67 = .ok (.ireturn, 1) := by decide +kernel
theorem dX8_approve_0 : decode cX8_approve 0 = .ok (.aload_n 0, 1) := by decide +kernel
theorem dX8_approve_1 : decode cX8_approve 1 = .ok (.iload_n 1, 1) := by decide +kernel
theorem dX8_approve_2 : decode cX8_approve 2 = .ok (.invokevirtual 137, 3) := by decide +kernel
theorem dX8_approve_5 : decode cX8_approve 5 = .ok (.iload_n 3, 1) := by decide +kernel
theorem dX8_approve_6 : decode cX8_approve 6 = .ok (.invokestatic 178, 3) := by decide +kernel
theorem dX8_approve_9 : decode cX8_approve 9 = .ok (.iload_n 2, 1) := by decide +kernel
theorem dX8_approve_10 : decode cX8_approve 10 = .ok (.iconst 0, 1) := by decide +kernel
theorem dX8_approve_11 : decode cX8_approve 11 = .ok (.iconst 3, 1) := by decide +kernel
theorem dX8_approve_12 : decode cX8_approve 12 = .ok (.invokestatic 63, 3) := by decide +kernel
theorem dX8_approve_15 : decode cX8_approve 15 = .ok (.iload_n 1, 1) := by decide +kernel
theorem dX8_approve_16 : decode cX8_approve 16 = .ok (.iload_n 2, 1) := by decide +kernel
theorem dX8_approve_17 : decode cX8_approve 17 = .ok (.invokestatic 161, 3) := by decide +kernel
theorem dX8_approve_20 : decode cX8_approve 20 = .ok (.istore 4, 2) := by decide +kernel
theorem dX8_approve_22 : decode cX8_approve 22 = .ok (.aload_n 0, 1) := by decide +kernel
theorem dX8_approve_23 : decode cX8_approve 23 = .ok (.getfield 41, 3) := by decide +kernel
theorem dX8_approve_26 : decode cX8_approve 26 = .ok (.getfield 158, 3) := by decide +kernel
theorem dX8_approve_29 : decode cX8_approve 29 = .ok (.iload 4, 2) := by decide +kernel
theorem dX8_approve_31 : decode cX8_approve 31 = .ok (.iaload, 1) := by decide +kernel
theorem dX8_approve_32 : decode cX8_approve 32 = .ok (.iconst 1, 1) := by decide +kernel
theorem dX8_approve_33 : decode cX8_approve 33 = .ok (.iload_n 3, 1) := by decide +kernel
theorem dX8_approve_34 : decode cX8_approve 34 = .ok (.ishl, 1) := by decide +kernel
theorem dX8_approve_35 : decode cX8_approve 35 = .ok (.iand, 1) := by decide +kernel
theorem dX8_approve_36 : decode cX8_approve 36 = .ok (.ifCond .eq 13, 3) := by decide +kernel
theorem dX8_approve_39 : decode cX8_approve 39 = .ok (.new 71, 3) := by decide +kernel
theorem dX8_approve_42 : decode cX8_approve 42 = .ok (.dup, 1) := by decide +kernel
theorem dX8_approve_43 : decode cX8_approve 43 = .ok (.ldc 181, 2) := by decide +kernel
theorem dX8_approve_45 : decode cX8_approve 45 = .ok (.invokespecial 75, 3) := by decide +kernel
theorem dX8_approve_48 : decode cX8_approve 48 = .ok (.athrow, 1) := by decide +kernel
theorem dX8_approve_49 : decode cX8_approve 49 = .ok (.aload_n 0, 1) := by decide +kernel
theorem dX8_approve_50 : decode cX8_approve 50 = .ok (.getfield 51, 3) := by decide +kernel
theorem dX8_approve_53 : decode cX8_approve 53 = .ok (.aload_n 0, 1) := by decide +kernel
theorem dX8_approve_54 : decode cX8_approve 54 = .ok (.getfield 41, 3) := by decide +kernel
theorem dX8_approve_57 : decode cX8_approve 57 = .ok (.invokevirtual 167, 3) := by decide +kernel
theorem dX8_approve_60 : decode cX8_approve 60 = .ok (.aload_n 0, 1) := by decide +kernel
theorem dX8_approve_61 : decode cX8_approve 61 = .ok (.getfield 41, 3) := by decide +kernel
theorem dX8_approve_64 : decode cX8_approve 64 = .ok (.getfield 158, 3) := by decide +kernel
theorem dX8_approve_67 : decode cX8_approve 67 = .ok (.iload 4, 2) := by decide +kernel
theorem dX8_approve_69 : decode cX8_approve 69 = .ok (.dup2, 1) := by decide +kernel
theorem dX8_approve_70 : decode cX8_approve 70 = .ok (.iaload, 1) := by decide +kernel
theorem dX8_approve_71 : decode cX8_approve 71 = .ok (.iconst 1, 1) := by decide +kernel
theorem dX8_approve_72 : decode cX8_approve 72 = .ok (.iload_n 3, 1) := by decide +kernel
theorem dX8_approve_73 : decode cX8_approve 73 = .ok (.ishl, 1) := by decide +kernel
theorem dX8_approve_74 : decode cX8_approve 74 = .ok (.ior, 1) := by decide +kernel
theorem dX8_approve_75 : decode cX8_approve 75 = .ok (.iastore, 1) := by decide +kernel
theorem dX8_approve_76 : decode cX8_approve 76 = .ok (.aload_n 0, 1) := by decide +kernel
theorem dX8_approve_77 : decode cX8_approve 77 = .ok (.getfield 41, 3) := by decide +kernel
theorem dX8_approve_80 : decode cX8_approve 80 = .ok (.getfield 158, 3) := by decide +kernel
theorem dX8_approve_83 : decode cX8_approve 83 = .ok (.iload 4, 2) := by decide +kernel
theorem dX8_approve_85 : decode cX8_approve 85 = .ok (.iaload, 1) := by decide +kernel
theorem dX8_approve_86 : decode cX8_approve 86 = .ok (.invokestatic 183, 3) := by decide +kernel
theorem dX8_approve_89 : decode cX8_approve 89 = .ok (.ireturn, 1) := by decide +kernel
theorem dX8_dismiss_0 : decode cX8_dismiss 0 = .ok (.iload_n 1, 1) := by decide +kernel
theorem dX8_dismiss_1 : decode cX8_dismiss 1 = .ok (.invokestatic 178, 3) := by decide +kernel
theorem dX8_dismiss_4 : decode cX8_dismiss 4 = .ok (.aload_n 0, 1) := by decide +kernel
theorem dX8_dismiss_5 : decode cX8_dismiss 5 = .ok (.getfield 51, 3) := by decide +kernel
theorem dX8_dismiss_8 : decode cX8_dismiss 8 = .ok (.aload_n 0, 1) := by decide +kernel
theorem dX8_dismiss_9 : decode cX8_dismiss 9 = .ok (.getfield 41, 3) := by decide +kernel
theorem dX8_dismiss_12 : decode cX8_dismiss 12 = .ok (.invokevirtual 167, 3) := by decide +kernel
theorem dX8_dismiss_15 : decode cX8_dismiss 15 = .ok (.iconst 0, 1) := by decide +kernel
theorem dX8_dismiss_16 : decode cX8_dismiss 16 = .ok (.istore_n 2, 1) := by decide +kernel
theorem dX8_dismiss_17 : decode cX8_dismiss 17 = .ok (.iconst 0, 1) := by decide +kernel
theorem dX8_dismiss_18 : decode cX8_dismiss 18 = .ok (.istore_n 3, 1) := by decide +kernel
theorem dX8_dismiss_19 : decode cX8_dismiss 19 = .ok (.iload_n 3, 1) := by decide +kernel
theorem dX8_dismiss_20 : decode cX8_dismiss 20 = .ok (.aload_n 0, 1) := by decide +kernel
theorem dX8_dismiss_21 : decode cX8_dismiss 21 = .ok (.getfield 41, 3) := by decide +kernel
theorem dX8_dismiss_24 : decode cX8_dismiss 24 = .ok (.getfield 158, 3) := by decide +kernel
theorem dX8_dismiss_27 : decode cX8_dismiss 27 = .ok (.arraylength, 1) := by decide +kernel
theorem dX8_dismiss_28 : decode cX8_dismiss 28 = .ok (.if_icmp .ge 45, 3) := by decide +kernel
theorem dX8_dismiss_31 : decode cX8_dismiss 31 = .ok (.aload_n 0, 1) := by decide +kernel
theorem dX8_dismiss_32 : decode cX8_dismiss 32 = .ok (.getfield 41, 3) := by decide +kernel
theorem dX8_dismiss_35 : decode cX8_dismiss 35 = .ok (.getfield 158, 3) := by decide +kernel
theorem dX8_dismiss_38 : decode cX8_dismiss 38 = .ok (.iload_n 3, 1) := by decide +kernel
theorem dX8_dismiss_39 : decode cX8_dismiss 39 = .ok (.iaload, 1) := by decide +kernel
theorem dX8_dismiss_40 : decode cX8_dismiss 40 = .ok (.iconst 1, 1) := by decide +kernel
theorem dX8_dismiss_41 : decode cX8_dismiss 41 = .ok (.iload_n 1, 1) := by decide +kernel
theorem dX8_dismiss_42 : decode cX8_dismiss 42 = .ok (.ishl, 1) := by decide +kernel
theorem dX8_dismiss_43 : decode cX8_dismiss 43 = .ok (.iand, 1) := by decide +kernel
theorem dX8_dismiss_44 : decode cX8_dismiss 44 = .ok (.ifCond .eq 23, 3) := by decide +kernel
theorem dX8_dismiss_47 : decode cX8_dismiss 47 = .ok (.aload_n 0, 1) := by decide +kernel
theorem dX8_dismiss_48 : decode cX8_dismiss 48 = .ok (.getfield 41, 3) := by decide +kernel
theorem dX8_dismiss_51 : decode cX8_dismiss 51 = .ok (.getfield 158, 3) := by decide +kernel
theorem dX8_dismiss_54 : decode cX8_dismiss 54 = .ok (.iload_n 3, 1) := by decide +kernel
theorem dX8_dismiss_55 : decode cX8_dismiss 55 = .ok (.dup2, 1) := by decide +kernel
theorem dX8_dismiss_56 : decode cX8_dismiss 56 = .ok (.iaload, 1) := by decide +kernel
theorem dX8_dismiss_57 : decode cX8_dismiss 57 = .ok (.iconst 1, 1) := by decide +kernel
theorem dX8_dismiss_58 : decode cX8_dismiss 58 = .ok (.iload_n 1, 1) := by decide +kernel
theorem dX8_dismiss_59 : decode cX8_dismiss 59 = .ok (.ishl, 1) := by decide +kernel
theorem dX8_dismiss_60 : decode cX8_dismiss 60 = .ok (.iconst (-1), 1) := by decide +kernel
theorem dX8_dismiss_61 : decode cX8_dismiss 61 = .ok (.ixor, 1) := by decide +kernel
theorem dX8_dismiss_62 : decode cX8_dismiss 62 = .ok (.iand, 1) := by decide +kernel
theorem dX8_dismiss_63 : decode cX8_dismiss 63 = .ok (.iastore, 1) := by decide +kernel
theorem dX8_dismiss_64 : decode cX8_dismiss 64 = .ok (.iinc 2 1, 3) := by decide +kernel
theorem dX8_dismiss_67 : decode cX8_dismiss 67 = .ok (.iinc 3 1, 3) := by decide +kernel
theorem dX8_dismiss_70 : decode cX8_dismiss 70 = .ok (.goto (-51), 3) := by decide +kernel
theorem dX8_dismiss_73 : decode cX8_dismiss 73 = .ok (.iload_n 2, 1) := by decide +kernel
theorem dX8_dismiss_74 : decode cX8_dismiss 74 = .ok (.ireturn, 1) := by decide +kernel
theorem dX8_setQuorum_0 : decode cX8_setQuorum 0 = .ok (.aload_n 0, 1) := by decide +kernel
theorem dX8_setQuorum_1 : decode cX8_setQuorum 1 = .ok (.iload_n 1, 1) := by decide +kernel
theorem dX8_setQuorum_2 : decode cX8_setQuorum 2 = .ok (.invokevirtual 137, 3) := by decide +kernel
theorem dX8_setQuorum_5 : decode cX8_setQuorum 5 = .ok (.iload_n 2, 1) := by decide +kernel
theorem dX8_setQuorum_6 : decode cX8_setQuorum 6 = .ok (.iconst 0, 1) := by decide +kernel
theorem dX8_setQuorum_7 : decode cX8_setQuorum 7 = .ok (.iconst 5, 1) := by decide +kernel
theorem dX8_setQuorum_8 : decode cX8_setQuorum 8 = .ok (.invokestatic 63, 3) := by decide +kernel
theorem dX8_setQuorum_11 : decode cX8_setQuorum 11 = .ok (.aload_n 0, 1) := by decide +kernel
theorem dX8_setQuorum_12 : decode cX8_setQuorum 12 = .ok (.getfield 51, 3) := by decide +kernel
theorem dX8_setQuorum_15 : decode cX8_setQuorum 15 = .ok (.aload_n 0, 1) := by decide +kernel
theorem dX8_setQuorum_16 : decode cX8_setQuorum 16 = .ok (.getfield 41, 3) := by decide +kernel
theorem dX8_setQuorum_19 : decode cX8_setQuorum 19 = .ok (.invokevirtual 167, 3) := by decide +kernel
theorem dX8_setQuorum_22 : decode cX8_setQuorum 22 = .ok (.aload_n 0, 1) := by decide +kernel
theorem dX8_setQuorum_23 : decode cX8_setQuorum 23 = .ok (.getfield 41, 3) := by decide +kernel
theorem dX8_setQuorum_26 : decode cX8_setQuorum 26 = .ok (.getfield 164, 3) := by decide +kernel
theorem dX8_setQuorum_29 : decode cX8_setQuorum 29 = .ok (.iload_n 1, 1) := by decide +kernel
theorem dX8_setQuorum_30 : decode cX8_setQuorum 30 = .ok (.iaload, 1) := by decide +kernel
theorem dX8_setQuorum_31 : decode cX8_setQuorum 31 = .ok (.istore_n 3, 1) := by decide +kernel
theorem dX8_setQuorum_32 : decode cX8_setQuorum 32 = .ok (.aload_n 0, 1) := by decide +kernel
theorem dX8_setQuorum_33 : decode cX8_setQuorum 33 = .ok (.getfield 41, 3) := by decide +kernel
theorem dX8_setQuorum_36 : decode cX8_setQuorum 36 = .ok (.getfield 164, 3) := by decide +kernel
theorem dX8_setQuorum_39 : decode cX8_setQuorum 39 = .ok (.iload_n 1, 1) := by decide +kernel
theorem dX8_setQuorum_40 : decode cX8_setQuorum 40 = .ok (.iload_n 2, 1) := by decide +kernel
theorem dX8_setQuorum_41 : decode cX8_setQuorum 41 = .ok (.iastore, 1) := by decide +kernel
theorem dX8_setQuorum_42 : decode cX8_setQuorum 42 = .ok (.iload_n 3, 1) := by decide +kernel
theorem dX8_setQuorum_43 : decode cX8_setQuorum 43 = .ok (.ireturn, 1) := by decide +kernel
theorem dX8_setFaults_0 : decode cX8_setFaults 0 = .ok (.aload_n 0, 1) := by decide +kernel
theorem dX8_setFaults_1 : decode cX8_setFaults 1 = .ok (.iload_n 1, 1) := by decide +kernel
theorem dX8_setFaults_2 : decode cX8_setFaults 2 = .ok (.invokevirtual 129, 3) := by decide +kernel
theorem dX8_setFaults_5 : decode cX8_setFaults 5 = .ok (.iload_n 2, 1) := by decide +kernel
theorem dX8_setFaults_6 : decode cX8_setFaults 6 = .ok (.iconst 0, 1) := by decide +kernel
theorem dX8_setFaults_7 : decode cX8_setFaults 7 = .ok (.bipush 9, 2) := by decide +kernel
theorem dX8_setFaults_9 : decode cX8_setFaults 9 = .ok (.invokestatic 63, 3) := by decide +kernel
theorem dX8_setFaults_12 : decode cX8_setFaults 12 = .ok (.aload_n 0, 1) := by decide +kernel
theorem dX8_setFaults_13 : decode cX8_setFaults 13 = .ok (.getfield 51, 3) := by decide +kernel
theorem dX8_setFaults_16 : decode cX8_setFaults 16 = .ok (.aload_n 0, 1) := by decide +kernel
theorem dX8_setFaults_17 : decode cX8_setFaults 17 = .ok (.getfield 41, 3) := by decide +kernel
theorem dX8_setFaults_20 : decode cX8_setFaults 20 = .ok (.invokevirtual 167, 3) := by decide +kernel
theorem dX8_setFaults_23 : decode cX8_setFaults 23 = .ok (.aload_n 0, 1) := by decide +kernel
theorem dX8_setFaults_24 : decode cX8_setFaults 24 = .ok (.getfield 41, 3) := by decide +kernel
theorem dX8_setFaults_27 : decode cX8_setFaults 27 = .ok (.getfield 188, 3) := by decide +kernel
theorem dX8_setFaults_30 : decode cX8_setFaults 30 = .ok (.iload_n 1, 1) := by decide +kernel
theorem dX8_setFaults_31 : decode cX8_setFaults 31 = .ok (.iaload, 1) := by decide +kernel
theorem dX8_setFaults_32 : decode cX8_setFaults 32 = .ok (.istore_n 3, 1) := by decide +kernel
theorem dX8_setFaults_33 : decode cX8_setFaults 33 = .ok (.aload_n 0, 1) := by decide +kernel
theorem dX8_setFaults_34 : decode cX8_setFaults 34 = .ok (.getfield 41, 3) := by decide +kernel
theorem dX8_setFaults_37 : decode cX8_setFaults 37 = .ok (.getfield 188, 3) := by decide +kernel
theorem dX8_setFaults_40 : decode cX8_setFaults 40 = .ok (.iload_n 1, 1) := by decide +kernel
theorem dX8_setFaults_41 : decode cX8_setFaults 41 = .ok (.iload_n 2, 1) := by decide +kernel
theorem dX8_setFaults_42 : decode cX8_setFaults 42 = .ok (.iastore, 1) := by decide +kernel
theorem dX8_setFaults_43 : decode cX8_setFaults 43 = .ok (.iload_n 3, 1) := by decide +kernel
theorem dX8_setFaults_44 : decode cX8_setFaults 44 = .ok (.ireturn, 1) := by decide +kernel
theorem dX8_pardon_0 : decode cX8_pardon 0 = .ok (.aload_n 0, 1) := by decide +kernel
theorem dX8_pardon_1 : decode cX8_pardon 1 = .ok (.iload_n 1, 1) := by decide +kernel
theorem dX8_pardon_2 : decode cX8_pardon 2 = .ok (.invokevirtual 129, 3) := by decide +kernel
theorem dX8_pardon_5 : decode cX8_pardon 5 = .ok (.aload_n 0, 1) := by decide +kernel
theorem dX8_pardon_6 : decode cX8_pardon 6 = .ok (.getfield 41, 3) := by decide +kernel
theorem dX8_pardon_9 : decode cX8_pardon 9 = .ok (.iload_n 1, 1) := by decide +kernel
theorem dX8_pardon_10 : decode cX8_pardon 10 = .ok (.invokevirtual 191, 3) := by decide +kernel
theorem dX8_pardon_13 : decode cX8_pardon 13 = .ok (.ifCond .ne 13, 3) := by decide +kernel
theorem dX8_pardon_16 : decode cX8_pardon 16 = .ok (.new 71, 3) := by decide +kernel
theorem dX8_pardon_19 : decode cX8_pardon 19 = .ok (.dup, 1) := by decide +kernel
theorem dX8_pardon_20 : decode cX8_pardon 20 = .ok (.ldc 195, 2) := by decide +kernel
theorem dX8_pardon_22 : decode cX8_pardon 22 = .ok (.invokespecial 75, 3) := by decide +kernel
theorem dX8_pardon_25 : decode cX8_pardon 25 = .ok (.athrow, 1) := by decide +kernel
theorem dX8_pardon_26 : decode cX8_pardon 26 = .ok (.aload_n 0, 1) := by decide +kernel
theorem dX8_pardon_27 : decode cX8_pardon 27 = .ok (.getfield 51, 3) := by decide +kernel
theorem dX8_pardon_30 : decode cX8_pardon 30 = .ok (.aload_n 0, 1) := by decide +kernel
theorem dX8_pardon_31 : decode cX8_pardon 31 = .ok (.getfield 41, 3) := by decide +kernel
theorem dX8_pardon_34 : decode cX8_pardon 34 = .ok (.invokevirtual 167, 3) := by decide +kernel
theorem dX8_pardon_37 : decode cX8_pardon 37 = .ok (.aload_n 0, 1) := by decide +kernel
theorem dX8_pardon_38 : decode cX8_pardon 38 = .ok (.getfield 41, 3) := by decide +kernel
theorem dX8_pardon_41 : decode cX8_pardon 41 = .ok (.getfield 197, 3) := by decide +kernel
theorem dX8_pardon_44 : decode cX8_pardon 44 = .ok (.iload_n 1, 1) := by decide +kernel
theorem dX8_pardon_45 : decode cX8_pardon 45 = .ok (.iaload, 1) := by decide +kernel
theorem dX8_pardon_46 : decode cX8_pardon 46 = .ok (.aload_n 0, 1) := by decide +kernel
theorem dX8_pardon_47 : decode cX8_pardon 47 = .ok (.getfield 41, 3) := by decide +kernel
theorem dX8_pardon_50 : decode cX8_pardon 50 = .ok (.getfield 114, 3) := by decide +kernel
theorem dX8_pardon_53 : decode cX8_pardon 53 = .ok (.isub, 1) := by decide +kernel
theorem dX8_pardon_54 : decode cX8_pardon 54 = .ok (.istore_n 2, 1) := by decide +kernel
theorem dX8_pardon_55 : decode cX8_pardon 55 = .ok (.aload_n 0, 1) := by decide +kernel
theorem dX8_pardon_56 : decode cX8_pardon 56 = .ok (.getfield 41, 3) := by decide +kernel
theorem dX8_pardon_59 : decode cX8_pardon 59 = .ok (.getfield 197, 3) := by decide +kernel
theorem dX8_pardon_62 : decode cX8_pardon 62 = .ok (.iload_n 1, 1) := by decide +kernel
theorem dX8_pardon_63 : decode cX8_pardon 63 = .ok (.aload_n 0, 1) := by decide +kernel
theorem dX8_pardon_64 : decode cX8_pardon 64 = .ok (.getfield 41, 3) := by decide +kernel
theorem dX8_pardon_67 : decode cX8_pardon 67 = .ok (.getfield 114, 3) := by decide +kernel
theorem dX8_pardon_70 : decode cX8_pardon 70 = .ok (.iastore, 1) := by decide +kernel
theorem dX8_pardon_71 : decode cX8_pardon 71 = .ok (.aload_n 0, 1) := by decide +kernel
theorem dX8_pardon_72 : decode cX8_pardon 72 = .ok (.getfield 41, 3) := by decide +kernel
theorem dX8_pardon_75 : decode cX8_pardon 75 = .ok (.getfield 200, 3) := by decide +kernel
theorem dX8_pardon_78 : decode cX8_pardon 78 = .ok (.iload_n 1, 1) := by decide +kernel
theorem dX8_pardon_79 : decode cX8_pardon 79 = .ok (.iconst 0, 1) := by decide +kernel
theorem dX8_pardon_80 : decode cX8_pardon 80 = .ok (.iastore, 1) := by decide +kernel
theorem dX8_pardon_81 : decode cX8_pardon 81 = .ok (.iload_n 2, 1) := by decide +kernel
theorem dX8_pardon_82 : decode cX8_pardon 82 = .ok (.ireturn, 1) := by decide +kernel
theorem dX8_tick_0 : decode cX8_tick 0 = .ok (.iload_n 1, 1) := by decide +kernel
theorem dX8_tick_1 : decode cX8_tick 1 = .ok (.iconst 1, 1) := by decide +kernel
theorem dX8_tick_2 : decode cX8_tick 2 = .ok (.bipush 50, 2) := by decide +kernel
theorem dX8_tick_4 : decode cX8_tick 4 = .ok (.invokestatic 63, 3) := by decide +kernel
theorem dX8_tick_7 : decode cX8_tick 7 = .ok (.aload_n 0, 1) := by decide +kernel
theorem dX8_tick_8 : decode cX8_tick 8 = .ok (.getfield 51, 3) := by decide +kernel
theorem dX8_tick_11 : decode cX8_tick 11 = .ok (.aload_n 0, 1) := by decide +kernel
theorem dX8_tick_12 : decode cX8_tick 12 = .ok (.getfield 41, 3) := by decide +kernel
theorem dX8_tick_15 : decode cX8_tick 15 = .ok (.invokevirtual 167, 3) := by decide +kernel
theorem dX8_tick_18 : decode cX8_tick 18 = .ok (.aload_n 0, 1) := by decide +kernel
theorem dX8_tick_19 : decode cX8_tick 19 = .ok (.getfield 41, 3) := by decide +kernel
theorem dX8_tick_22 : decode cX8_tick 22 = .ok (.getfield 117, 3) := by decide +kernel
theorem dX8_tick_25 : decode cX8_tick 25 = .ok (.istore_n 2, 1) := by decide +kernel
theorem dX8_tick_26 : decode cX8_tick 26 = .ok (.aload_n 0, 1) := by decide +kernel
theorem dX8_tick_27 : decode cX8_tick 27 = .ok (.getfield 41, 3) := by decide +kernel
theorem dX8_tick_30 : decode cX8_tick 30 = .ok (.iload_n 1, 1) := by decide +kernel
theorem dX8_tick_31 : decode cX8_tick 31 = .ok (.invokevirtual 203, 3) := by decide +kernel
theorem dX8_tick_34 : decode cX8_tick 34 = .ok (.aload_n 0, 1) := by decide +kernel
theorem dX8_tick_35 : decode cX8_tick 35 = .ok (.getfield 41, 3) := by decide +kernel
theorem dX8_tick_38 : decode cX8_tick 38 = .ok (.getfield 117, 3) := by decide +kernel
theorem dX8_tick_41 : decode cX8_tick 41 = .ok (.iload_n 2, 1) := by decide +kernel
theorem dX8_tick_42 : decode cX8_tick 42 = .ok (.isub, 1) := by decide +kernel
theorem dX8_tick_43 : decode cX8_tick 43 = .ok (.ireturn, 1) := by decide +kernel
theorem dX8_undo_0 : decode cX8_undo 0 = .ok (.aload_n 0, 1) := by decide +kernel
theorem dX8_undo_1 : decode cX8_undo 1 = .ok (.getfield 51, 3) := by decide +kernel
theorem dX8_undo_4 : decode cX8_undo 4 = .ok (.getfield 206, 3) := by decide +kernel
theorem dX8_undo_7 : decode cX8_undo 7 = .ok (.ifCond .ne 13, 3) := by decide +kernel
theorem dX8_undo_10 : decode cX8_undo 10 = .ok (.new 71, 3) := by decide +kernel
theorem dX8_undo_13 : decode cX8_undo 13 = .ok (.dup, 1) := by decide +kernel
theorem dX8_undo_14 : decode cX8_undo 14 = .ok (.ldc 207, 2) := by decide +kernel
theorem dX8_undo_16 : decode cX8_undo 16 = .ok (.invokespecial 75, 3) := by decide +kernel
theorem dX8_undo_19 : decode cX8_undo 19 = .ok (.athrow, 1) := by decide +kernel
theorem dX8_undo_20 : decode cX8_undo 20 = .ok (.aload_n 0, 1) := by decide +kernel
theorem dX8_undo_21 : decode cX8_undo 21 = .ok (.getfield 51, 3) := by decide +kernel
theorem dX8_undo_24 : decode cX8_undo 24 = .ok (.aload_n 0, 1) := by decide +kernel
theorem dX8_undo_25 : decode cX8_undo 25 = .ok (.getfield 41, 3) := by decide +kernel
theorem dX8_undo_28 : decode cX8_undo 28 = .ok (.invokevirtual 209, 3) := by decide +kernel
theorem dX8_undo_31 : decode cX8_undo 31 = .ok (.aload_n 0, 1) := by decide +kernel
theorem dX8_undo_32 : decode cX8_undo 32 = .ok (.getfield 51, 3) := by decide +kernel
theorem dX8_undo_35 : decode cX8_undo 35 = .ok (.getfield 206, 3) := by decide +kernel
theorem dX8_undo_38 : decode cX8_undo 38 = .ok (.ireturn, 1) := by decide +kernel
theorem dX8_state_0 : decode cX8_state 0 = .ok (.aload_n 0, 1) := by decide +kernel
theorem dX8_state_1 : decode cX8_state 1 = .ok (.iload_n 1, 1) := by decide +kernel
theorem dX8_state_2 : decode cX8_state 2 = .ok (.invokevirtual 129, 3) := by decide +kernel
theorem dX8_state_5 : decode cX8_state 5 = .ok (.aload_n 0, 1) := by decide +kernel
theorem dX8_state_6 : decode cX8_state 6 = .ok (.iload_n 2, 1) := by decide +kernel
theorem dX8_state_7 : decode cX8_state 7 = .ok (.invokevirtual 137, 3) := by decide +kernel
theorem dX8_state_10 : decode cX8_state 10 = .ok (.aload_n 0, 1) := by decide +kernel
theorem dX8_state_11 : decode cX8_state 11 = .ok (.getfield 41, 3) := by decide +kernel
theorem dX8_state_14 : decode cX8_state 14 = .ok (.iload_n 1, 1) := by decide +kernel
theorem dX8_state_15 : decode cX8_state 15 = .ok (.iload_n 2, 1) := by decide +kernel
theorem dX8_state_16 : decode cX8_state 16 = .ok (.invokevirtual 212, 3) := by decide +kernel
theorem dX8_state_19 : decode cX8_state 19 = .ok (.ireturn, 1) := by decide +kernel
theorem dX8_next_0 : decode cX8_next 0 = .ok (.aload_n 0, 1) := by decide +kernel
theorem dX8_next_1 : decode cX8_next 1 = .ok (.iload_n 1, 1) := by decide +kernel
theorem dX8_next_2 : decode cX8_next 2 = .ok (.invokevirtual 129, 3) := by decide +kernel
theorem dX8_next_5 : decode cX8_next 5 = .ok (.aload_n 0, 1) := by decide +kernel
theorem dX8_next_6 : decode cX8_next 6 = .ok (.getfield 41, 3) := by decide +kernel
theorem dX8_next_9 : decode cX8_next 9 = .ok (.iload_n 1, 1) := by decide +kernel
theorem dX8_next_10 : decode cX8_next 10 = .ok (.invokevirtual 215, 3) := by decide +kernel
theorem dX8_next_13 : decode cX8_next 13 = .ok (.ireturn, 1) := by decide +kernel
theorem dX8_breaks_0 : decode cX8_breaks 0 = .ok (.aload_n 0, 1) := by decide +kernel
theorem dX8_breaks_1 : decode cX8_breaks 1 = .ok (.iload_n 1, 1) := by decide +kernel
theorem dX8_breaks_2 : decode cX8_breaks 2 = .ok (.invokevirtual 129, 3) := by decide +kernel
theorem dX8_breaks_5 : decode cX8_breaks 5 = .ok (.aload_n 0, 1) := by decide +kernel
theorem dX8_breaks_6 : decode cX8_breaks 6 = .ok (.iload_n 2, 1) := by decide +kernel
theorem dX8_breaks_7 : decode cX8_breaks 7 = .ok (.invokevirtual 137, 3) := by decide +kernel
theorem dX8_breaks_10 : decode cX8_breaks 10 = .ok (.iload_n 3, 1) := by decide +kernel
theorem dX8_breaks_11 : decode cX8_breaks 11 = .ok (.iconst 0, 1) := by decide +kernel
theorem dX8_breaks_12 : decode cX8_breaks 12 = .ok (.iconst 3, 1) := by decide +kernel
theorem dX8_breaks_13 : decode cX8_breaks 13 = .ok (.invokestatic 63, 3) := by decide +kernel
theorem dX8_breaks_16 : decode cX8_breaks 16 = .ok (.aload_n 0, 1) := by decide +kernel
theorem dX8_breaks_17 : decode cX8_breaks 17 = .ok (.getfield 25, 3) := by decide +kernel
theorem dX8_breaks_20 : decode cX8_breaks 20 = .ok (.getfield 93, 3) := by decide +kernel
theorem dX8_breaks_23 : decode cX8_breaks 23 = .ok (.aload_n 0, 1) := by decide +kernel
theorem dX8_breaks_24 : decode cX8_breaks 24 = .ok (.getfield 41, 3) := by decide +kernel
theorem dX8_breaks_27 : decode cX8_breaks 27 = .ok (.getfield 144, 3) := by decide +kernel
theorem dX8_breaks_30 : decode cX8_breaks 30 = .ok (.iload_n 1, 1) := by decide +kernel
theorem dX8_breaks_31 : decode cX8_breaks 31 = .ok (.iaload, 1) := by decide +kernel
theorem dX8_breaks_32 : decode cX8_breaks 32 = .ok (.aload_n 0, 1) := by decide +kernel
theorem dX8_breaks_33 : decode cX8_breaks 33 = .ok (.getfield 41, 3) := by decide +kernel
theorem dX8_breaks_36 : decode cX8_breaks 36 = .ok (.getfield 144, 3) := by decide +kernel
theorem dX8_breaks_39 : decode cX8_breaks 39 = .ok (.iload_n 1, 1) := by decide +kernel
theorem dX8_breaks_40 : decode cX8_breaks 40 = .ok (.iaload, 1) := by decide +kernel
theorem dX8_breaks_41 : decode cX8_breaks 41 = .ok (.iload_n 2, 1) := by decide +kernel
theorem dX8_breaks_42 : decode cX8_breaks 42 = .ok (.iload_n 3, 1) := by decide +kernel
theorem dX8_breaks_43 : decode cX8_breaks 43 = .ok (.invokestatic 171, 3) := by decide +kernel
theorem dX8_breaks_46 : decode cX8_breaks 46 = .ok (.invokevirtual 218, 3) := by decide +kernel
theorem dX8_breaks_49 : decode cX8_breaks 49 = .ok (.ireturn, 1) := by decide +kernel
theorem dX8_holdsUp_0 : decode cX8_holdsUp 0 = .ok (.aload_n 0, 1) := by decide +kernel
theorem dX8_holdsUp_1 : decode cX8_holdsUp 1 = .ok (.iload_n 1, 1) := by decide +kernel
theorem dX8_holdsUp_2 : decode cX8_holdsUp 2 = .ok (.invokevirtual 152, 3) := by decide +kernel
theorem dX8_holdsUp_5 : decode cX8_holdsUp 5 = .ok (.aload_n 0, 1) := by decide +kernel
theorem dX8_holdsUp_6 : decode cX8_holdsUp 6 = .ok (.getfield 41, 3) := by decide +kernel
theorem dX8_holdsUp_9 : decode cX8_holdsUp 9 = .ok (.iload_n 1, 1) := by decide +kernel
theorem dX8_holdsUp_10 : decode cX8_holdsUp 10 = .ok (.invokevirtual 221, 3) := by decide +kernel
theorem dX8_holdsUp_13 : decode cX8_holdsUp 13 = .ok (.ireturn, 1) := by decide +kernel
theorem dX8_missing_0 : decode cX8_missing 0 = .ok (.aload_n 0, 1) := by decide +kernel
theorem dX8_missing_1 : decode cX8_missing 1 = .ok (.iload_n 1, 1) := by decide +kernel
theorem dX8_missing_2 : decode cX8_missing 2 = .ok (.invokevirtual 137, 3) := by decide +kernel
theorem dX8_missing_5 : decode cX8_missing 5 = .ok (.aload_n 0, 1) := by decide +kernel
theorem dX8_missing_6 : decode cX8_missing 6 = .ok (.getfield 41, 3) := by decide +kernel
theorem dX8_missing_9 : decode cX8_missing 9 = .ok (.iload_n 1, 1) := by decide +kernel
theorem dX8_missing_10 : decode cX8_missing 10 = .ok (.invokevirtual 224, 3) := by decide +kernel
theorem dX8_missing_13 : decode cX8_missing 13 = .ok (.ireturn, 1) := by decide +kernel
theorem dX8_ahead_0 : decode cX8_ahead 0 = .ok (.aload_n 0, 1) := by decide +kernel
theorem dX8_ahead_1 : decode cX8_ahead 1 = .ok (.iload_n 2, 1) := by decide +kernel
theorem dX8_ahead_2 : decode cX8_ahead 2 = .ok (.invokevirtual 129, 3) := by decide +kernel
theorem dX8_ahead_5 : decode cX8_ahead 5 = .ok (.iload_n 1, 1) := by decide +kernel
theorem dX8_ahead_6 : decode cX8_ahead 6 = .ok (.iconst 0, 1) := by decide +kernel
theorem dX8_ahead_7 : decode cX8_ahead 7 = .ok (.bipush 99, 2) := by decide +kernel
theorem dX8_ahead_9 : decode cX8_ahead 9 = .ok (.invokestatic 63, 3) := by decide +kernel
theorem dX8_ahead_12 : decode cX8_ahead 12 = .ok (.iload_n 3, 1) := by decide +kernel
theorem dX8_ahead_13 : decode cX8_ahead 13 = .ok (.iconst 0, 1) := by decide +kernel
theorem dX8_ahead_14 : decode cX8_ahead 14 = .ok (.bipush 6, 2) := by decide +kernel
theorem dX8_ahead_16 : decode cX8_ahead 16 = .ok (.invokestatic 63, 3) := by decide +kernel
theorem dX8_ahead_19 : decode cX8_ahead 19 = .ok (.aload_n 0, 1) := by decide +kernel
theorem dX8_ahead_20 : decode cX8_ahead 20 = .ok (.getfield 45, 3) := by decide +kernel
theorem dX8_ahead_23 : decode cX8_ahead 23 = .ok (.aload_n 0, 1) := by decide +kernel
theorem dX8_ahead_24 : decode cX8_ahead 24 = .ok (.getfield 41, 3) := by decide +kernel
theorem dX8_ahead_27 : decode cX8_ahead 27 = .ok (.invokevirtual 227, 3) := by decide +kernel
theorem dX8_ahead_30 : decode cX8_ahead 30 = .ok (.aload_n 0, 1) := by decide +kernel
theorem dX8_ahead_31 : decode cX8_ahead 31 = .ok (.getfield 45, 3) := by decide +kernel
theorem dX8_ahead_34 : decode cX8_ahead 34 = .ok (.iload_n 1, 1) := by decide +kernel
theorem dX8_ahead_35 : decode cX8_ahead 35 = .ok (.invokevirtual 203, 3) := by decide +kernel
theorem dX8_ahead_38 : decode cX8_ahead 38 = .ok (.aload_n 0, 1) := by decide +kernel
theorem dX8_ahead_39 : decode cX8_ahead 39 = .ok (.getfield 45, 3) := by decide +kernel
theorem dX8_ahead_42 : decode cX8_ahead 42 = .ok (.iload_n 2, 1) := by decide +kernel
theorem dX8_ahead_43 : decode cX8_ahead 43 = .ok (.iload_n 3, 1) := by decide +kernel
theorem dX8_ahead_44 : decode cX8_ahead 44 = .ok (.invokevirtual 133, 3) := by decide +kernel
theorem dX8_ahead_47 : decode cX8_ahead 47 = .ok (.ireturn, 1) := by decide +kernel
theorem dX8_calmAfter_0 : decode cX8_calmAfter 0 = .ok (.aload_n 0, 1) := by decide +kernel
theorem dX8_calmAfter_1 : decode cX8_calmAfter 1 = .ok (.getfield 45, 3) := by decide +kernel
theorem dX8_calmAfter_4 : decode cX8_calmAfter 4 = .ok (.aload_n 0, 1) := by decide +kernel
theorem dX8_calmAfter_5 : decode cX8_calmAfter 5 = .ok (.getfield 41, 3) := by decide +kernel
theorem dX8_calmAfter_8 : decode cX8_calmAfter 8 = .ok (.invokevirtual 227, 3) := by decide +kernel
theorem dX8_calmAfter_11 : decode cX8_calmAfter 11 = .ok (.iconst 0, 1) := by decide +kernel
theorem dX8_calmAfter_12 : decode cX8_calmAfter 12 = .ok (.istore_n 1, 1) := by decide +kernel
theorem dX8_calmAfter_13 : decode cX8_calmAfter 13 = .ok (.iload_n 1, 1) := by decide +kernel
theorem dX8_calmAfter_14 : decode cX8_calmAfter 14 = .ok (.bipush 99, 2) := by decide +kernel
theorem dX8_calmAfter_16 : decode cX8_calmAfter 16 = .ok (.if_icmp .gt 29, 3) := by decide +kernel
theorem dX8_calmAfter_19 : decode cX8_calmAfter 19 = .ok (.aload_n 0, 1) := by decide +kernel
theorem dX8_calmAfter_20 : decode cX8_calmAfter 20 = .ok (.getfield 45, 3) := by decide +kernel
theorem dX8_calmAfter_23 : decode cX8_calmAfter 23 = .ok (.invokevirtual 230, 3) := by decide +kernel
theorem dX8_calmAfter_26 : decode cX8_calmAfter 26 = .ok (.ifCond .ne 5, 3) := by decide +kernel
theorem dX8_calmAfter_29 : decode cX8_calmAfter 29 = .ok (.iload_n 1, 1) := by decide +kernel
theorem dX8_calmAfter_30 : decode cX8_calmAfter 30 = .ok (.ireturn, 1) := by decide +kernel
theorem dX8_calmAfter_31 : decode cX8_calmAfter 31 = .ok (.aload_n 0, 1) := by decide +kernel
theorem dX8_calmAfter_32 : decode cX8_calmAfter 32 = .ok (.getfield 45, 3) := by decide +kernel
theorem dX8_calmAfter_35 : decode cX8_calmAfter 35 = .ok (.iconst 1, 1) := by decide +kernel
theorem dX8_calmAfter_36 : decode cX8_calmAfter 36 = .ok (.invokevirtual 203, 3) := by decide +kernel
theorem dX8_calmAfter_39 : decode cX8_calmAfter 39 = .ok (.iinc 1 1, 3) := by decide +kernel
theorem dX8_calmAfter_42 : decode cX8_calmAfter 42 = .ok (.goto (-29), 3) := by decide +kernel
theorem dX8_calmAfter_45 : decode cX8_calmAfter 45 = .ok (.bipush (-9), 2) := by decide +kernel
theorem dX8_calmAfter_47 : decode cX8_calmAfter 47 = .ok (.ireturn, 1) := by decide +kernel
theorem dX8_fewest_0 : decode cX8_fewest 0 = .ok (.aload_n 0, 1) := by decide +kernel
theorem dX8_fewest_1 : decode cX8_fewest 1 = .ok (.iload_n 1, 1) := by decide +kernel
theorem dX8_fewest_2 : decode cX8_fewest 2 = .ok (.invokevirtual 129, 3) := by decide +kernel
theorem dX8_fewest_5 : decode cX8_fewest 5 = .ok (.aload_n 0, 1) := by decide +kernel
theorem dX8_fewest_6 : decode cX8_fewest 6 = .ok (.getfield 34, 3) := by decide +kernel
theorem dX8_fewest_9 : decode cX8_fewest 9 = .ok (.aload_n 0, 1) := by decide +kernel
theorem dX8_fewest_10 : decode cX8_fewest 10 = .ok (.getfield 41, 3) := by decide +kernel
theorem dX8_fewest_13 : decode cX8_fewest 13 = .ok (.getfield 144, 3) := by decide +kernel
theorem dX8_fewest_16 : decode cX8_fewest 16 = .ok (.iload_n 1, 1) := by decide +kernel
theorem dX8_fewest_17 : decode cX8_fewest 17 = .ok (.iaload, 1) := by decide +kernel
theorem dX8_fewest_18 : decode cX8_fewest 18 = .ok (.aload_n 0, 1) := by decide +kernel
theorem dX8_fewest_19 : decode cX8_fewest 19 = .ok (.getfield 41, 3) := by decide +kernel
theorem dX8_fewest_22 : decode cX8_fewest 22 = .ok (.getfield 140, 3) := by decide +kernel
theorem dX8_fewest_25 : decode cX8_fewest 25 = .ok (.iload_n 1, 1) := by decide +kernel
theorem dX8_fewest_26 : decode cX8_fewest 26 = .ok (.iaload, 1) := by decide +kernel
theorem dX8_fewest_27 : decode cX8_fewest 27 = .ok (.invokevirtual 233, 3) := by decide +kernel
theorem dX8_fewest_30 : decode cX8_fewest 30 = .ok (.ireturn, 1) := by decide +kernel
theorem dX8_step_0 : decode cX8_step 0 = .ok (.aload_n 0, 1) := by decide +kernel
theorem dX8_step_1 : decode cX8_step 1 = .ok (.iload_n 1, 1) := by decide +kernel
theorem dX8_step_2 : decode cX8_step 2 = .ok (.invokevirtual 129, 3) := by decide +kernel
theorem dX8_step_5 : decode cX8_step 5 = .ok (.iload_n 2, 1) := by decide +kernel
theorem dX8_step_6 : decode cX8_step 6 = .ok (.ifCond .ge 13, 3) := by decide +kernel
theorem dX8_step_9 : decode cX8_step 9 = .ok (.new 124, 3) := by decide +kernel
theorem dX8_step_12 : decode cX8_step 12 = .ok (.dup, 1) := by decide +kernel
theorem dX8_step_13 : decode cX8_step 13 = .ok (.ldc 236, 2) := by decide +kernel
theorem dX8_step_15 : decode cX8_step 15 = .ok (.invokespecial 128, 3) := by decide +kernel
theorem dX8_step_18 : decode cX8_step 18 = .ok (.athrow, 1) := by decide +kernel
theorem dX8_step_19 : decode cX8_step 19 = .ok (.aload_n 0, 1) := by decide +kernel
theorem dX8_step_20 : decode cX8_step 20 = .ok (.getfield 34, 3) := by decide +kernel
theorem dX8_step_23 : decode cX8_step 23 = .ok (.aload_n 0, 1) := by decide +kernel
theorem dX8_step_24 : decode cX8_step 24 = .ok (.getfield 41, 3) := by decide +kernel
theorem dX8_step_27 : decode cX8_step 27 = .ok (.getfield 144, 3) := by decide +kernel
theorem dX8_step_30 : decode cX8_step 30 = .ok (.iload_n 1, 1) := by decide +kernel
theorem dX8_step_31 : decode cX8_step 31 = .ok (.iaload, 1) := by decide +kernel
theorem dX8_step_32 : decode cX8_step 32 = .ok (.aload_n 0, 1) := by decide +kernel
theorem dX8_step_33 : decode cX8_step 33 = .ok (.getfield 41, 3) := by decide +kernel
theorem dX8_step_36 : decode cX8_step 36 = .ok (.getfield 140, 3) := by decide +kernel
theorem dX8_step_39 : decode cX8_step 39 = .ok (.iload_n 1, 1) := by decide +kernel
theorem dX8_step_40 : decode cX8_step 40 = .ok (.iaload, 1) := by decide +kernel
theorem dX8_step_41 : decode cX8_step 41 = .ok (.iload_n 2, 1) := by decide +kernel
theorem dX8_step_42 : decode cX8_step 42 = .ok (.invokevirtual 238, 3) := by decide +kernel
theorem dX8_step_45 : decode cX8_step 45 = .ok (.ireturn, 1) := by decide +kernel
theorem dX8_needed_0 : decode cX8_needed 0 = .ok (.aload_n 0, 1) := by decide +kernel
theorem dX8_needed_1 : decode cX8_needed 1 = .ok (.iload_n 1, 1) := by decide +kernel
theorem dX8_needed_2 : decode cX8_needed 2 = .ok (.invokevirtual 137, 3) := by decide +kernel
theorem dX8_needed_5 : decode cX8_needed 5 = .ok (.aload_n 0, 1) := by decide +kernel
theorem dX8_needed_6 : decode cX8_needed 6 = .ok (.iload_n 3, 1) := by decide +kernel
theorem dX8_needed_7 : decode cX8_needed 7 = .ok (.invokevirtual 137, 3) := by decide +kernel
theorem dX8_needed_10 : decode cX8_needed 10 = .ok (.iload_n 2, 1) := by decide +kernel
theorem dX8_needed_11 : decode cX8_needed 11 = .ok (.iconst 0, 1) := by decide +kernel
theorem dX8_needed_12 : decode cX8_needed 12 = .ok (.iconst 3, 1) := by decide +kernel
theorem dX8_needed_13 : decode cX8_needed 13 = .ok (.invokestatic 63, 3) := by decide +kernel
theorem dX8_needed_16 : decode cX8_needed 16 = .ok (.aload_n 0, 1) := by decide +kernel
theorem dX8_needed_17 : decode cX8_needed 17 = .ok (.getfield 25, 3) := by decide +kernel
theorem dX8_needed_20 : decode cX8_needed 20 = .ok (.getfield 93, 3) := by decide +kernel
theorem dX8_needed_23 : decode cX8_needed 23 = .ok (.iconst 0, 1) := by decide +kernel
theorem dX8_needed_24 : decode cX8_needed 24 = .ok (.iload_n 1, 1) := by decide +kernel
theorem dX8_needed_25 : decode cX8_needed 25 = .ok (.iload_n 2, 1) := by decide +kernel
theorem dX8_needed_26 : decode cX8_needed 26 = .ok (.invokestatic 171, 3) := by decide +kernel
theorem dX8_needed_29 : decode cX8_needed 29 = .ok (.invokevirtual 241, 3) := by decide +kernel
theorem dX8_needed_32 : decode cX8_needed 32 = .ok (.iload_n 3, 1) := by decide +kernel
theorem dX8_needed_33 : decode cX8_needed 33 = .ok (.invokestatic 147, 3) := by decide +kernel
theorem dX8_needed_36 : decode cX8_needed 36 = .ok (.ireturn, 1) := by decide +kernel
theorem dX8_isPossible_0 : decode cX8_isPossible 0 = .ok (.aload_n 0, 1) := by decide +kernel
theorem dX8_isPossible_1 : decode cX8_isPossible 1 = .ok (.iload_n 1, 1) := by decide +kernel
theorem dX8_isPossible_2 : decode cX8_isPossible 2 = .ok (.invokevirtual 137, 3) := by decide +kernel
theorem dX8_isPossible_5 : decode cX8_isPossible 5 = .ok (.iload_n 2, 1) := by decide +kernel
theorem dX8_isPossible_6 : decode cX8_isPossible 6 = .ok (.iconst 0, 1) := by decide +kernel
theorem dX8_isPossible_7 : decode cX8_isPossible 7 = .ok (.iconst 3, 1) := by decide +kernel
theorem dX8_isPossible_8 : decode cX8_isPossible 8 = .ok (.invokestatic 63, 3) := by decide +kernel
theorem dX8_isPossible_11 : decode cX8_isPossible 11 = .ok (.aload_n 0, 1) := by decide +kernel
theorem dX8_isPossible_12 : decode cX8_isPossible 12 = .ok (.getfield 25, 3) := by decide +kernel
theorem dX8_isPossible_15 : decode cX8_isPossible 15 = .ok (.getfield 93, 3) := by decide +kernel
theorem dX8_isPossible_18 : decode cX8_isPossible 18 = .ok (.iload_n 1, 1) := by decide +kernel
theorem dX8_isPossible_19 : decode cX8_isPossible 19 = .ok (.iload_n 2, 1) := by decide +kernel
theorem dX8_isPossible_20 : decode cX8_isPossible 20 = .ok (.invokevirtual 244, 3) := by decide +kernel
theorem dX8_isPossible_23 : decode cX8_isPossible 23 = .ok (.ireturn, 1) := by decide +kernel
theorem dX8_explains_0 : decode cX8_explains 0 = .ok (.aload_n 0, 1) := by decide +kernel
theorem dX8_explains_1 : decode cX8_explains 1 = .ok (.iload_n 1, 1) := by decide +kernel
theorem dX8_explains_2 : decode cX8_explains 2 = .ok (.invokevirtual 129, 3) := by decide +kernel
theorem dX8_explains_5 : decode cX8_explains 5 = .ok (.iload_n 2, 1) := by decide +kernel
theorem dX8_explains_6 : decode cX8_explains 6 = .ok (.iconst 0, 1) := by decide +kernel
theorem dX8_explains_7 : decode cX8_explains 7 = .ok (.bipush 63, 2) := by decide +kernel
theorem dX8_explains_9 : decode cX8_explains 9 = .ok (.invokestatic 63, 3) := by decide +kernel
theorem dX8_explains_12 : decode cX8_explains 12 = .ok (.aload_n 0, 1) := by decide +kernel
theorem dX8_explains_13 : decode cX8_explains 13 = .ok (.getfield 41, 3) := by decide +kernel
theorem dX8_explains_16 : decode cX8_explains 16 = .ok (.iload_n 1, 1) := by decide +kernel
theorem dX8_explains_17 : decode cX8_explains 17 = .ok (.iload_n 2, 1) := by decide +kernel
theorem dX8_explains_18 : decode cX8_explains 18 = .ok (.invokevirtual 248, 3) := by decide +kernel
theorem dX8_explains_21 : decode cX8_explains 21 = .ok (.ireturn, 1) := by decide +kernel
theorem dX8_ranked_0 : decode cX8_ranked 0 = .ok (.aload_n 0, 1) := by decide +kernel
theorem dX8_ranked_1 : decode cX8_ranked 1 = .ok (.iload_n 1, 1) := by decide +kernel
theorem dX8_ranked_2 : decode cX8_ranked 2 = .ok (.invokevirtual 129, 3) := by decide +kernel
theorem dX8_ranked_5 : decode cX8_ranked 5 = .ok (.iconst 0, 1) := by decide +kernel
theorem dX8_ranked_6 : decode cX8_ranked 6 = .ok (.istore_n 2, 1) := by decide +kernel
theorem dX8_ranked_7 : decode cX8_ranked 7 = .ok (.iload_n 2, 1) := by decide +kernel
theorem dX8_ranked_8 : decode cX8_ranked 8 = .ok (.aload_n 0, 1) := by decide +kernel
theorem dX8_ranked_9 : decode cX8_ranked 9 = .ok (.getfield 25, 3) := by decide +kernel
theorem dX8_ranked_12 : decode cX8_ranked 12 = .ok (.getfield 102, 3) := by decide +kernel
theorem dX8_ranked_15 : decode cX8_ranked 15 = .ok (.if_icmp .ge 23, 3) := by decide +kernel
theorem dX8_ranked_18 : decode cX8_ranked 18 = .ok (.aload_n 0, 1) := by decide +kernel
theorem dX8_ranked_19 : decode cX8_ranked 19 = .ok (.getfield 41, 3) := by decide +kernel
theorem dX8_ranked_22 : decode cX8_ranked 22 = .ok (.iload_n 2, 1) := by decide +kernel
theorem dX8_ranked_23 : decode cX8_ranked 23 = .ok (.invokevirtual 251, 3) := by decide +kernel
theorem dX8_ranked_26 : decode cX8_ranked 26 = .ok (.iload_n 1, 1) := by decide +kernel
theorem dX8_ranked_27 : decode cX8_ranked 27 = .ok (.if_icmp .ne 5, 3) := by decide +kernel
theorem dX8_ranked_30 : decode cX8_ranked 30 = .ok (.iload_n 2, 1) := by decide +kernel
theorem dX8_ranked_31 : decode cX8_ranked 31 = .ok (.ireturn, 1) := by decide +kernel
theorem dX8_ranked_32 : decode cX8_ranked 32 = .ok (.iinc 2 1, 3) := by decide +kernel
theorem dX8_ranked_35 : decode cX8_ranked 35 = .ok (.goto (-28), 3) := by decide +kernel
theorem dX8_ranked_38 : decode cX8_ranked 38 = .ok (.bipush (-9), 2) := by decide +kernel
theorem dX8_ranked_40 : decode cX8_ranked 40 = .ok (.ireturn, 1) := by decide +kernel
theorem dX8_runScript_0 : decode cX8_runScript 0 = .ok (.iload_n 1, 1) := by decide +kernel
theorem dX8_runScript_1 : decode cX8_runScript 1 = .ok (.iconst 1, 1) := by decide +kernel
theorem dX8_runScript_2 : decode cX8_runScript 2 = .ok (.iconst 4, 1) := by decide +kernel
theorem dX8_runScript_3 : decode cX8_runScript 3 = .ok (.invokestatic 63, 3) := by decide +kernel
theorem dX8_runScript_6 : decode cX8_runScript 6 = .ok (.lconst 1, 1) := by decide +kernel
theorem dX8_runScript_7 : decode cX8_runScript 7 = .ok (.lstore 4, 2) := by decide +kernel
theorem dX8_runScript_9 : decode cX8_runScript 9 = .ok (.iconst 0, 1) := by decide +kernel
theorem dX8_runScript_10 : decode cX8_runScript 10 = .ok (.istore 6, 2) := by decide +kernel
theorem dX8_runScript_12 : decode cX8_runScript 12 = .ok (.iload 6, 2) := by decide +kernel
theorem dX8_runScript_14 : decode cX8_runScript 14 = .ok (.iload_n 1, 1) := by decide +kernel
theorem dX8_runScript_15 : decode cX8_runScript 15 = .ok (.if_icmp .ge 17, 3) := by decide +kernel
theorem dX8_runScript_18 : decode cX8_runScript 18 = .ok (.lload 4, 2) := by decide +kernel
theorem dX8_runScript_20 : decode cX8_runScript 20 = .ok (.ldc2_w 254, 3) := by decide +kernel
theorem dX8_runScript_23 : decode cX8_runScript 23 = .ok (.lmul, 1) := by decide +kernel
theorem dX8_runScript_24 : decode cX8_runScript 24 = .ok (.lstore 4, 2) := by decide +kernel
theorem dX8_runScript_26 : decode cX8_runScript 26 = .ok (.iinc 6 1, 3) := by decide +kernel
theorem dX8_runScript_29 : decode cX8_runScript 29 = .ok (.goto (-17), 3) := by decide +kernel
theorem dX8_runScript_32 : decode cX8_runScript 32 = .ok (.lload_n 2, 1) := by decide +kernel
theorem dX8_runScript_33 : decode cX8_runScript 33 = .ok (.lconst 0, 1) := by decide +kernel
theorem dX8_runScript_34 : decode cX8_runScript 34 = .ok (.lcmp, 1) := by decide +kernel
theorem dX8_runScript_35 : decode cX8_runScript 35 = .ok (.ifCond .lt 10, 3) := by decide +kernel
theorem dX8_runScript_38 : decode cX8_runScript 38 = .ok (.lload_n 2, 1) := by decide +kernel
theorem dX8_runScript_39 : decode cX8_runScript 39 = .ok (.lload 4, 2) := by decide +kernel
theorem dX8_runScript_41 : decode cX8_runScript 41 = .ok (.lcmp, 1) := by decide +kernel
theorem dX8_runScript_42 : decode cX8_runScript 42 = .ok (.ifCond .lt 14, 3) := by decide +kernel
theorem dX8_runScript_45 : decode cX8_runScript 45 = .ok (.new 124, 3) := by decide +kernel
theorem dX8_runScript_48 : decode cX8_runScript 48 = .ok (.dup, 1) := by decide +kernel
theorem dX8_runScript_49 : decode cX8_runScript 49 = .ok (.ldc_w 256, 3) := by decide +kernel
theorem dX8_runScript_52 : decode cX8_runScript 52 = .ok (.invokespecial 128, 3) := by decide +kernel
theorem dX8_runScript_55 : decode cX8_runScript 55 = .ok (.athrow, 1) := by decide +kernel
theorem dX8_runScript_56 : decode cX8_runScript 56 = .ok (.aload_n 0, 1) := by decide +kernel
theorem dX8_runScript_57 : decode cX8_runScript 57 = .ok (.getfield 45, 3) := by decide +kernel
theorem dX8_runScript_60 : decode cX8_runScript 60 = .ok (.aload_n 0, 1) := by decide +kernel
theorem dX8_runScript_61 : decode cX8_runScript 61 = .ok (.getfield 41, 3) := by decide +kernel
theorem dX8_runScript_64 : decode cX8_runScript 64 = .ok (.invokevirtual 227, 3) := by decide +kernel
theorem dX8_runScript_67 : decode cX8_runScript 67 = .ok (.iconst 0, 1) := by decide +kernel
theorem dX8_runScript_68 : decode cX8_runScript 68 = .ok (.istore 6, 2) := by decide +kernel
theorem dX8_runScript_70 : decode cX8_runScript 70 = .ok (.iload 6, 2) := by decide +kernel
theorem dX8_runScript_72 : decode cX8_runScript 72 = .ok (.iload_n 1, 1) := by decide +kernel
theorem dX8_runScript_73 : decode cX8_runScript 73 = .ok (.if_icmp .ge 54, 3) := by decide +kernel
theorem dX8_runScript_76 : decode cX8_runScript 76 = .ok (.lload 4, 2) := by decide +kernel
theorem dX8_runScript_78 : decode cX8_runScript 78 = .ok (.ldc2_w 254, 3) := by decide +kernel
theorem dX8_runScript_81 : decode cX8_runScript 81 = .ok (.ldiv, 1) := by decide +kernel
theorem dX8_runScript_82 : decode cX8_runScript 82 = .ok (.lstore 4, 2) := by decide +kernel
theorem dX8_runScript_84 : decode cX8_runScript 84 = .ok (.lload 4, 2) := by decide +kernel
theorem dX8_runScript_86 : decode cX8_runScript 86 = .ok (.lconst 0, 1) := by decide +kernel
theorem dX8_runScript_87 : decode cX8_runScript 87 = .ok (.lcmp, 1) := by decide +kernel
theorem dX8_runScript_88 : decode cX8_runScript 88 = .ok (.ifCond .le 15, 3) := by decide +kernel
theorem dX8_runScript_91 : decode cX8_runScript 91 = .ok (.lload_n 2, 1) := by decide +kernel
theorem dX8_runScript_92 : decode cX8_runScript 92 = .ok (.lload 4, 2) := by decide +kernel
theorem dX8_runScript_94 : decode cX8_runScript 94 = .ok (.ldiv, 1) := by decide +kernel
theorem dX8_runScript_95 : decode cX8_runScript 95 = .ok (.ldc2_w 254, 3) := by decide +kernel
theorem dX8_runScript_98 : decode cX8_runScript 98 = .ok (.lrem, 1) := by decide +kernel
theorem dX8_runScript_99 : decode cX8_runScript 99 = .ok (.l2i, 1) := by decide +kernel
theorem dX8_runScript_100 : decode cX8_runScript 100 = .ok (.goto 4, 3) := by decide +kernel
theorem dX8_runScript_103 : decode cX8_runScript 103 = .ok (.iconst 0, 1) := by decide +kernel
theorem dX8_runScript_104 : decode cX8_runScript 104 = .ok (.istore 7, 2) := by decide +kernel
theorem dX8_runScript_106 : decode cX8_runScript 106 = .ok (.aload_n 0, 1) := by decide +kernel
theorem dX8_runScript_107 : decode cX8_runScript 107 = .ok (.getfield 45, 3) := by decide +kernel
theorem dX8_runScript_110 : decode cX8_runScript 110 = .ok (.iload 7, 2) := by decide +kernel
theorem dX8_runScript_112 : decode cX8_runScript 112 = .ok (.invokestatic 258, 3) := by decide +kernel
theorem dX8_runScript_115 : decode cX8_runScript 115 = .ok (.ifCond .ne 6, 3) := by decide +kernel
theorem dX8_runScript_118 : decode cX8_runScript 118 = .ok (.iload 6, 2) := by decide +kernel
theorem dX8_runScript_120 : decode cX8_runScript 120 = .ok (.ireturn, 1) := by decide +kernel
theorem dX8_runScript_121 : decode cX8_runScript 121 = .ok (.iinc 6 1, 3) := by decide +kernel
theorem dX8_runScript_124 : decode cX8_runScript 124 = .ok (.goto (-54), 3) := by decide +kernel
theorem dX8_runScript_127 : decode cX8_runScript 127 = .ok (.bipush (-9), 2) := by decide +kernel
theorem dX8_runScript_129 : decode cX8_runScript 129 = .ok (.ireturn, 1) := by decide +kernel
theorem dX8_simulate_0 : decode cX8_simulate 0 = .ok (.iload_n 3, 1) := by decide +kernel
theorem dX8_simulate_1 : decode cX8_simulate 1 = .ok (.iconst 1, 1) := by decide +kernel
theorem dX8_simulate_2 : decode cX8_simulate 2 = .ok (.bipush 60, 2) := by decide +kernel
theorem dX8_simulate_4 : decode cX8_simulate 4 = .ok (.invokestatic 63, 3) := by decide +kernel
theorem dX8_simulate_7 : decode cX8_simulate 7 = .ok (.aload_n 0, 1) := by decide +kernel
theorem dX8_simulate_8 : decode cX8_simulate 8 = .ok (.getfield 45, 3) := by decide +kernel
theorem dX8_simulate_11 : decode cX8_simulate 11 = .ok (.aload_n 0, 1) := by decide +kernel
theorem dX8_simulate_12 : decode cX8_simulate 12 = .ok (.getfield 41, 3) := by decide +kernel
theorem dX8_simulate_15 : decode cX8_simulate 15 = .ok (.invokevirtual 227, 3) := by decide +kernel
theorem dX8_simulate_18 : decode cX8_simulate 18 = .ok (.lload_n 1, 1) := by decide +kernel
theorem dX8_simulate_19 : decode cX8_simulate 19 = .ok (.lstore 4, 2) := by decide +kernel
theorem dX8_simulate_21 : decode cX8_simulate 21 = .ok (.iconst 0, 1) := by decide +kernel
theorem dX8_simulate_22 : decode cX8_simulate 22 = .ok (.istore 6, 2) := by decide +kernel
theorem dX8_simulate_24 : decode cX8_simulate 24 = .ok (.iload 6, 2) := by decide +kernel
theorem dX8_simulate_26 : decode cX8_simulate 26 = .ok (.iload_n 3, 1) := by decide +kernel
theorem dX8_simulate_27 : decode cX8_simulate 27 = .ok (.if_icmp .ge 42, 3) := by decide +kernel
theorem dX8_simulate_30 : decode cX8_simulate 30 = .ok (.lload 4, 2) := by decide +kernel
theorem dX8_simulate_32 : decode cX8_simulate 32 = .ok (.ldc2_w 264, 3) := by decide +kernel
theorem dX8_simulate_35 : decode cX8_simulate 35 = .ok (.lmul, 1) := by decide +kernel
theorem dX8_simulate_36 : decode cX8_simulate 36 = .ok (.ldc2_w 266, 3) := by decide +kernel
theorem dX8_simulate_39 : decode cX8_simulate 39 = .ok (.ladd, 1) := by decide +kernel
theorem dX8_simulate_40 : decode cX8_simulate 40 = .ok (.lstore 4, 2) := by decide +kernel
theorem dX8_simulate_42 : decode cX8_simulate 42 = .ok (.aload_n 0, 1) := by decide +kernel
theorem dX8_simulate_43 : decode cX8_simulate 43 = .ok (.getfield 45, 3) := by decide +kernel
theorem dX8_simulate_46 : decode cX8_simulate 46 = .ok (.lload 4, 2) := by decide +kernel
theorem dX8_simulate_48 : decode cX8_simulate 48 = .ok (.bipush 33, 2) := by decide +kernel
theorem dX8_simulate_50 : decode cX8_simulate 50 = .ok (.lushr, 1) := by decide +kernel
theorem dX8_simulate_51 : decode cX8_simulate 51 = .ok (.l2i, 1) := by decide +kernel
theorem dX8_simulate_52 : decode cX8_simulate 52 = .ok (.invokevirtual 268, 3) := by decide +kernel
theorem dX8_simulate_55 : decode cX8_simulate 55 = .ok (.aload_n 0, 1) := by decide +kernel
theorem dX8_simulate_56 : decode cX8_simulate 56 = .ok (.getfield 45, 3) := by decide +kernel
theorem dX8_simulate_59 : decode cX8_simulate 59 = .ok (.iconst 1, 1) := by decide +kernel
theorem dX8_simulate_60 : decode cX8_simulate 60 = .ok (.invokevirtual 203, 3) := by decide +kernel
theorem dX8_simulate_63 : decode cX8_simulate 63 = .ok (.iinc 6 1, 3) := by decide +kernel
theorem dX8_simulate_66 : decode cX8_simulate 66 = .ok (.goto (-42), 3) := by decide +kernel
theorem dX8_simulate_69 : decode cX8_simulate 69 = .ok (.aload_n 0, 1) := by decide +kernel
theorem dX8_simulate_70 : decode cX8_simulate 70 = .ok (.getfield 45, 3) := by decide +kernel
theorem dX8_simulate_73 : decode cX8_simulate 73 = .ok (.getfield 117, 3) := by decide +kernel
theorem dX8_simulate_76 : decode cX8_simulate 76 = .ok (.aload_n 0, 1) := by decide +kernel
theorem dX8_simulate_77 : decode cX8_simulate 77 = .ok (.getfield 41, 3) := by decide +kernel
theorem dX8_simulate_80 : decode cX8_simulate 80 = .ok (.getfield 117, 3) := by decide +kernel
theorem dX8_simulate_83 : decode cX8_simulate 83 = .ok (.isub, 1) := by decide +kernel
theorem dX8_simulate_84 : decode cX8_simulate 84 = .ok (.sipush 1000, 3) := by decide +kernel
theorem dX8_simulate_87 : decode cX8_simulate 87 = .ok (.aload_n 0, 1) := by decide +kernel
theorem dX8_simulate_88 : decode cX8_simulate 88 = .ok (.getfield 45, 3) := by decide +kernel
theorem dX8_simulate_91 : decode cX8_simulate 91 = .ok (.invokevirtual 230, 3) := by decide +kernel
theorem dX8_simulate_94 : decode cX8_simulate 94 = .ok (.invokestatic 183, 3) := by decide +kernel
theorem dX8_simulate_97 : decode cX8_simulate 97 = .ok (.imul, 1) := by decide +kernel
theorem dX8_simulate_98 : decode cX8_simulate 98 = .ok (.iadd, 1) := by decide +kernel
theorem dX8_simulate_99 : decode cX8_simulate 99 = .ok (.ireturn, 1) := by decide +kernel
theorem dX8_save_0 : decode cX8_save 0 = .ok (.iload_n 1, 1) := by decide +kernel
theorem dX8_save_1 : decode cX8_save 1 = .ok (.invokestatic 271, 3) := by decide +kernel
theorem dX8_save_4 : decode cX8_save 4 = .ok (.aload_n 0, 1) := by decide +kernel
theorem dX8_save_5 : decode cX8_save 5 = .ok (.getfield 55, 3) := by decide +kernel
theorem dX8_save_8 : decode cX8_save 8 = .ok (.iload_n 1, 1) := by decide +kernel
theorem dX8_save_9 : decode cX8_save 9 = .ok (.aaload, 1) := by decide +kernel
theorem dX8_save_10 : decode cX8_save 10 = .ok (.aload_n 0, 1) := by decide +kernel
theorem dX8_save_11 : decode cX8_save 11 = .ok (.getfield 41, 3) := by decide +kernel
theorem dX8_save_14 : decode cX8_save 14 = .ok (.invokevirtual 227, 3) := by decide +kernel
theorem dX8_save_17 : decode cX8_save 17 = .ok (.aload_n 0, 1) := by decide +kernel
theorem dX8_save_18 : decode cX8_save 18 = .ok (.getfield 59, 3) := by decide +kernel
theorem dX8_save_21 : decode cX8_save 21 = .ok (.iload_n 1, 1) := by decide +kernel
theorem dX8_save_22 : decode cX8_save 22 = .ok (.iconst 1, 1) := by decide +kernel
theorem dX8_save_23 : decode cX8_save 23 = .ok (.bastore, 1) := by decide +kernel
theorem dX8_save_24 : decode cX8_save 24 = .ok (.aload_n 0, 1) := by decide +kernel
theorem dX8_save_25 : decode cX8_save 25 = .ok (.getfield 41, 3) := by decide +kernel
theorem dX8_save_28 : decode cX8_save 28 = .ok (.getfield 114, 3) := by decide +kernel
theorem dX8_save_31 : decode cX8_save 31 = .ok (.ireturn, 1) := by decide +kernel
theorem dX8_restore_0 : decode cX8_restore 0 = .ok (.iload_n 1, 1) := by decide +kernel
theorem dX8_restore_1 : decode cX8_restore 1 = .ok (.invokestatic 271, 3) := by decide +kernel
theorem dX8_restore_4 : decode cX8_restore 4 = .ok (.aload_n 0, 1) := by decide +kernel
theorem dX8_restore_5 : decode cX8_restore 5 = .ok (.getfield 59, 3) := by decide +kernel
theorem dX8_restore_8 : decode cX8_restore 8 = .ok (.iload_n 1, 1) := by decide +kernel
theorem dX8_restore_9 : decode cX8_restore 9 = .ok (.baload, 1) := by decide +kernel
theorem dX8_restore_10 : decode cX8_restore 10 = .ok (.ifCond .ne 14, 3) := by decide +kernel
theorem dX8_restore_13 : decode cX8_restore 13 = .ok (.new 71, 3) := by decide +kernel
theorem dX8_restore_16 : decode cX8_restore 16 = .ok (.dup, 1) := by decide +kernel
theorem dX8_restore_17 : decode cX8_restore 17 = .ok (.ldc_w 274, 3) := by decide +kernel
theorem dX8_restore_20 : decode cX8_restore 20 = .ok (.invokespecial 75, 3) := by decide +kernel
theorem dX8_restore_23 : decode cX8_restore 23 = .ok (.athrow, 1) := by decide +kernel
theorem dX8_restore_24 : decode cX8_restore 24 = .ok (.aload_n 0, 1) := by decide +kernel
theorem dX8_restore_25 : decode cX8_restore 25 = .ok (.getfield 41, 3) := by decide +kernel
theorem dX8_restore_28 : decode cX8_restore 28 = .ok (.aload_n 0, 1) := by decide +kernel
theorem dX8_restore_29 : decode cX8_restore 29 = .ok (.getfield 55, 3) := by decide +kernel
theorem dX8_restore_32 : decode cX8_restore 32 = .ok (.iload_n 1, 1) := by decide +kernel
theorem dX8_restore_33 : decode cX8_restore 33 = .ok (.aaload, 1) := by decide +kernel
theorem dX8_restore_34 : decode cX8_restore 34 = .ok (.invokevirtual 227, 3) := by decide +kernel
theorem dX8_restore_37 : decode cX8_restore 37 = .ok (.aload_n 0, 1) := by decide +kernel
theorem dX8_restore_38 : decode cX8_restore 38 = .ok (.getfield 51, 3) := by decide +kernel
theorem dX8_restore_41 : decode cX8_restore 41 = .ok (.invokevirtual 92, 3) := by decide +kernel
theorem dX8_restore_44 : decode cX8_restore 44 = .ok (.aload_n 0, 1) := by decide +kernel
theorem dX8_restore_45 : decode cX8_restore 45 = .ok (.getfield 41, 3) := by decide +kernel
theorem dX8_restore_48 : decode cX8_restore 48 = .ok (.getfield 114, 3) := by decide +kernel
theorem dX8_restore_51 : decode cX8_restore 51 = .ok (.ireturn, 1) := by decide +kernel
theorem dX8_requireNode_0 : decode cX8_requireNode 0 = .ok (.iload_n 1, 1) := by decide +kernel
theorem dX8_requireNode_1 : decode cX8_requireNode 1 = .ok (.ifCond .lt 14, 3) := by decide +kernel
theorem dX8_requireNode_4 : decode cX8_requireNode 4 = .ok (.iload_n 1, 1) := by decide +kernel
theorem dX8_requireNode_5 : decode cX8_requireNode 5 = .ok (.aload_n 0, 1) := by decide +kernel
theorem dX8_requireNode_6 : decode cX8_requireNode 6 = .ok (.getfield 25, 3) := by decide +kernel
theorem dX8_requireNode_9 : decode cX8_requireNode 9 = .ok (.getfield 102, 3) := by decide +kernel
theorem dX8_requireNode_12 : decode cX8_requireNode 12 = .ok (.if_icmp .lt 14, 3) := by decide +kernel
theorem dX8_requireNode_15 : decode cX8_requireNode 15 = .ok (.new 276, 3) := by decide +kernel
theorem dX8_requireNode_18 : decode cX8_requireNode 18 = .ok (.dup, 1) := by decide +kernel
theorem dX8_requireNode_19 : decode cX8_requireNode 19 = .ok (.ldc_w 278, 3) := by decide +kernel
theorem dX8_requireNode_22 : decode cX8_requireNode 22 = .ok (.invokespecial 280, 3) := by decide +kernel
theorem dX8_requireNode_25 : decode cX8_requireNode 25 = .ok (.athrow, 1) := by decide +kernel
theorem dX8_requireNode_26 : decode cX8_requireNode 26 = .ok (.return_, 1) := by decide +kernel
theorem dX8_requireComponent_0 : decode cX8_requireComponent 0 = .ok (.iload_n 1, 1) := by decide +kernel
theorem dX8_requireComponent_1 : decode cX8_requireComponent 1 = .ok (.ifCond .lt 14, 3) := by decide +kernel
theorem dX8_requireComponent_4 : decode cX8_requireComponent 4 = .ok (.iload_n 1, 1) := by decide +kernel
theorem dX8_requireComponent_5 : decode cX8_requireComponent 5 = .ok (.aload_n 0, 1) := by decide +kernel
theorem dX8_requireComponent_6 : decode cX8_requireComponent 6 = .ok (.getfield 25, 3) := by decide +kernel
theorem dX8_requireComponent_9 : decode cX8_requireComponent 9 = .ok (.getfield 105, 3) := by decide +kernel
theorem dX8_requireComponent_12 : decode cX8_requireComponent 12 = .ok (.if_icmp .lt 14, 3) := by decide +kernel
theorem dX8_requireComponent_15 : decode cX8_requireComponent 15 = .ok (.new 276, 3) := by decide +kernel
theorem dX8_requireComponent_18 : decode cX8_requireComponent 18 = .ok (.dup, 1) := by decide +kernel
theorem dX8_requireComponent_19 : decode cX8_requireComponent 19 = .ok (.ldc_w 281, 3) := by decide +kernel
theorem dX8_requireComponent_22 : decode cX8_requireComponent 22 = .ok (.invokespecial 280, 3) := by decide +kernel
theorem dX8_requireComponent_25 : decode cX8_requireComponent 25 = .ok (.athrow, 1) := by decide +kernel
theorem dX8_requireComponent_26 : decode cX8_requireComponent 26 = .ok (.return_, 1) := by decide +kernel
theorem dX8_requireRule_0 : decode cX8_requireRule 0 = .ok (.iload_n 1, 1) := by decide +kernel
theorem dX8_requireRule_1 : decode cX8_requireRule 1 = .ok (.ifCond .lt 17, 3) := by decide +kernel
theorem dX8_requireRule_4 : decode cX8_requireRule 4 = .ok (.iload_n 1, 1) := by decide +kernel
theorem dX8_requireRule_5 : decode cX8_requireRule 5 = .ok (.aload_n 0, 1) := by decide +kernel
theorem dX8_requireRule_6 : decode cX8_requireRule 6 = .ok (.getfield 25, 3) := by decide +kernel
theorem dX8_requireRule_9 : decode cX8_requireRule 9 = .ok (.getfield 93, 3) := by decide +kernel
theorem dX8_requireRule_12 : decode cX8_requireRule 12 = .ok (.getfield 97, 3) := by decide +kernel
theorem dX8_requireRule_15 : decode cX8_requireRule 15 = .ok (.if_icmp .lt 14, 3) := by decide +kernel
theorem dX8_requireRule_18 : decode cX8_requireRule 18 = .ok (.new 276, 3) := by decide +kernel
theorem dX8_requireRule_21 : decode cX8_requireRule 21 = .ok (.dup, 1) := by decide +kernel
theorem dX8_requireRule_22 : decode cX8_requireRule 22 = .ok (.ldc_w 283, 3) := by decide +kernel
theorem dX8_requireRule_25 : decode cX8_requireRule 25 = .ok (.invokespecial 280, 3) := by decide +kernel
theorem dX8_requireRule_28 : decode cX8_requireRule 28 = .ok (.athrow, 1) := by decide +kernel
theorem dX8_requireRule_29 : decode cX8_requireRule 29 = .ok (.return_, 1) := by decide +kernel
theorem dX8_requireApprover_0 : decode cX8_requireApprover 0 = .ok (.iload_n 0, 1) := by decide +kernel
theorem dX8_requireApprover_1 : decode cX8_requireApprover 1 = .ok (.ifCond .lt 8, 3) := by decide +kernel
theorem dX8_requireApprover_4 : decode cX8_requireApprover 4 = .ok (.iload_n 0, 1) := by decide +kernel
theorem dX8_requireApprover_5 : decode cX8_requireApprover 5 = .ok (.iconst 5, 1) := by decide +kernel
theorem dX8_requireApprover_6 : decode cX8_requireApprover 6 = .ok (.if_icmp .lt 14, 3) := by decide +kernel
theorem dX8_requireApprover_9 : decode cX8_requireApprover 9 = .ok (.new 276, 3) := by decide +kernel
theorem dX8_requireApprover_12 : decode cX8_requireApprover 12 = .ok (.dup, 1) := by decide +kernel
theorem dX8_requireApprover_13 : decode cX8_requireApprover 13 = .ok (.ldc_w 285, 3) := by decide +kernel
theorem dX8_requireApprover_16 : decode cX8_requireApprover 16 = .ok (.invokespecial 280, 3) := by decide +kernel
theorem dX8_requireApprover_19 : decode cX8_requireApprover 19 = .ok (.athrow, 1) := by decide +kernel
theorem dX8_requireApprover_20 : decode cX8_requireApprover 20 = .ok (.return_, 1) := by decide +kernel
theorem dX8_requireSlot_0 : decode cX8_requireSlot 0 = .ok (.iload_n 0, 1) := by decide +kernel
theorem dX8_requireSlot_1 : decode cX8_requireSlot 1 = .ok (.ifCond .lt 8, 3) := by decide +kernel
theorem dX8_requireSlot_4 : decode cX8_requireSlot 4 = .ok (.iload_n 0, 1) := by decide +kernel
theorem dX8_requireSlot_5 : decode cX8_requireSlot 5 = .ok (.iconst 2, 1) := by decide +kernel
theorem dX8_requireSlot_6 : decode cX8_requireSlot 6 = .ok (.if_icmp .lt 14, 3) := by decide +kernel
theorem dX8_requireSlot_9 : decode cX8_requireSlot 9 = .ok (.new 276, 3) := by decide +kernel
theorem dX8_requireSlot_12 : decode cX8_requireSlot 12 = .ok (.dup, 1) := by decide +kernel
theorem dX8_requireSlot_13 : decode cX8_requireSlot 13 = .ok (.ldc_w 287, 3) := by decide +kernel
theorem dX8_requireSlot_16 : decode cX8_requireSlot 16 = .ok (.invokespecial 280, 3) := by decide +kernel
theorem dX8_requireSlot_19 : decode cX8_requireSlot 19 = .ok (.athrow, 1) := by decide +kernel
theorem dX8_requireSlot_20 : decode cX8_requireSlot 20 = .ok (.return_, 1) := by decide +kernel
theorem dX8_requireRange_0 : decode cX8_requireRange 0 = .ok (.iload_n 0, 1) := by decide +kernel
theorem dX8_requireRange_1 : decode cX8_requireRange 1 = .ok (.iload_n 1, 1) := by decide +kernel
theorem dX8_requireRange_2 : decode cX8_requireRange 2 = .ok (.if_icmp .lt 8, 3) := by decide +kernel
theorem dX8_requireRange_5 : decode cX8_requireRange 5 = .ok (.iload_n 0, 1) := by decide +kernel
theorem dX8_requireRange_6 : decode cX8_requireRange 6 = .ok (.iload_n 2, 1) := by decide +kernel
theorem dX8_requireRange_7 : decode cX8_requireRange 7 = .ok (.if_icmp .le 14, 3) := by decide +kernel
theorem dX8_requireRange_10 : decode cX8_requireRange 10 = .ok (.new 124, 3) := by decide +kernel
theorem dX8_requireRange_13 : decode cX8_requireRange 13 = .ok (.dup, 1) := by decide +kernel
theorem dX8_requireRange_14 : decode cX8_requireRange 14 = .ok (.ldc_w 289, 3) := by decide +kernel
theorem dX8_requireRange_17 : decode cX8_requireRange 17 = .ok (.invokespecial 128, 3) := by decide +kernel
theorem dX8_requireRange_20 : decode cX8_requireRange 20 = .ok (.athrow, 1) := by decide +kernel
theorem dX8_requireRange_21 : decode cX8_requireRange 21 = .ok (.return_, 1) := by decide +kernel
end
section
theorem dX9_init_0 : decode cX9_init 0 = .ok (.aload_n 0, 1) := by decide +kernel
theorem dX9_init_1 : decode cX9_init 1 = .ok (.invokespecial 1, 3) := by decide +kernel
theorem dX9_init_4 : decode cX9_init 4 = .ok (.aload_n 0, 1) := by decide +kernel
theorem dX9_init_5 : decode cX9_init 5 = .ok (.sipush 160, 3) := by decide +kernel
theorem dX9_init_8 : decode cX9_init 8 = .ok (.newarray .int, 2) := by decide +kernel
theorem dX9_init_10 : decode cX9_init 10 = .ok (.putfield 7, 3) := by decide +kernel
theorem dX9_init_13 : decode cX9_init 13 = .ok (.aload_n 0, 1) := by decide +kernel
theorem dX9_init_14 : decode cX9_init 14 = .ok (.iconst 1, 1) := by decide +kernel
theorem dX9_init_15 : decode cX9_init 15 = .ok (.putfield 13, 3) := by decide +kernel
theorem dX9_init_18 : decode cX9_init 18 = .ok (.aload_n 0, 1) := by decide +kernel
theorem dX9_init_19 : decode cX9_init 19 = .ok (.iconst 1, 1) := by decide +kernel
theorem dX9_init_20 : decode cX9_init 20 = .ok (.putfield 17, 3) := by decide +kernel
theorem dX9_init_23 : decode cX9_init 23 = .ok (.aload_n 0, 1) := by decide +kernel
theorem dX9_init_24 : decode cX9_init 24 = .ok (.iconst 3, 1) := by decide +kernel
theorem dX9_init_25 : decode cX9_init 25 = .ok (.putfield 20, 3) := by decide +kernel
theorem dX9_init_28 : decode cX9_init 28 = .ok (.aload_n 0, 1) := by decide +kernel
theorem dX9_init_29 : decode cX9_init 29 = .ok (.iconst 5, 1) := by decide +kernel
theorem dX9_init_30 : decode cX9_init 30 = .ok (.putfield 23, 3) := by decide +kernel
theorem dX9_init_33 : decode cX9_init 33 = .ok (.aload_n 0, 1) := by decide +kernel
theorem dX9_init_34 : decode cX9_init 34 = .ok (.iconst 5, 1) := by decide +kernel
theorem dX9_init_35 : decode cX9_init 35 = .ok (.newarray .int, 2) := by decide +kernel
theorem dX9_init_37 : decode cX9_init 37 = .ok (.putfield 26, 3) := by decide +kernel
theorem dX9_init_40 : decode cX9_init 40 = .ok (.aload_n 0, 1) := by decide +kernel
theorem dX9_init_41 : decode cX9_init 41 = .ok (.bipush 50, 2) := by decide +kernel
theorem dX9_init_43 : decode cX9_init 43 = .ok (.newarray .int, 2) := by decide +kernel
theorem dX9_init_45 : decode cX9_init 45 = .ok (.putfield 29, 3) := by decide +kernel
theorem dX9_init_48 : decode cX9_init 48 = .ok (.aload_n 0, 1) := by decide +kernel
theorem dX9_init_49 : decode cX9_init 49 = .ok (.iconst 5, 1) := by decide +kernel
theorem dX9_init_50 : decode cX9_init 50 = .ok (.newarray .int, 2) := by decide +kernel
theorem dX9_init_52 : decode cX9_init 52 = .ok (.putfield 32, 3) := by decide +kernel
theorem dX9_init_55 : decode cX9_init 55 = .ok (.aload_n 0, 1) := by decide +kernel
theorem dX9_init_56 : decode cX9_init 56 = .ok (.bipush 50, 2) := by decide +kernel
theorem dX9_init_58 : decode cX9_init 58 = .ok (.newarray .int, 2) := by decide +kernel
theorem dX9_init_60 : decode cX9_init 60 = .ok (.putfield 35, 3) := by decide +kernel
theorem dX9_init_63 : decode cX9_init 63 = .ok (.aload_n 0, 1) := by decide +kernel
theorem dX9_init_64 : decode cX9_init 64 = .ok (.bipush 107, 2) := by decide +kernel
theorem dX9_init_66 : decode cX9_init 66 = .ok (.newarray .int, 2) := by decide +kernel
theorem dX9_init_68 : decode cX9_init 68 = .ok (.putfield 38, 3) := by decide +kernel
theorem dX9_init_71 : decode cX9_init 71 = .ok (.aload_n 0, 1) := by decide +kernel
theorem dX9_init_72 : decode cX9_init 72 = .ok (.bipush 107, 2) := by decide +kernel
theorem dX9_init_74 : decode cX9_init 74 = .ok (.newarray .int, 2) := by decide +kernel
theorem dX9_init_76 : decode cX9_init 76 = .ok (.putfield 41, 3) := by decide +kernel
theorem dX9_init_79 : decode cX9_init 79 = .ok (.aload_n 0, 1) := by decide +kernel
theorem dX9_init_80 : decode cX9_init 80 = .ok (.bipush 107, 2) := by decide +kernel
theorem dX9_init_82 : decode cX9_init 82 = .ok (.newarray .int, 2) := by decide +kernel
theorem dX9_init_84 : decode cX9_init 84 = .ok (.putfield 44, 3) := by decide +kernel
theorem dX9_init_87 : decode cX9_init 87 = .ok (.aload_n 0, 1) := by decide +kernel
theorem dX9_init_88 : decode cX9_init 88 = .ok (.sipush 1498, 3) := by decide +kernel
theorem dX9_init_91 : decode cX9_init 91 = .ok (.newarray .int, 2) := by decide +kernel
theorem dX9_init_93 : decode cX9_init 93 = .ok (.putfield 47, 3) := by decide +kernel
theorem dX9_init_96 : decode cX9_init 96 = .ok (.aload_n 0, 1) := by decide +kernel
theorem dX9_init_97 : decode cX9_init 97 = .ok (.sipush 214, 3) := by decide +kernel
theorem dX9_init_100 : decode cX9_init 100 = .ok (.newarray .int, 2) := by decide +kernel
theorem dX9_init_102 : decode cX9_init 102 = .ok (.putfield 50, 3) := by decide +kernel
theorem dX9_init_105 : decode cX9_init 105 = .ok (.aload_n 0, 1) := by decide +kernel
theorem dX9_init_106 : decode cX9_init 106 = .ok (.iconst 2, 1) := by decide +kernel
theorem dX9_init_107 : decode cX9_init 107 = .ok (.newarray .boolean, 2) := by decide +kernel
theorem dX9_init_109 : decode cX9_init 109 = .ok (.putfield 53, 3) := by decide +kernel
theorem dX9_init_112 : decode cX9_init 112 = .ok (.aload_n 0, 1) := by decide +kernel
theorem dX9_init_113 : decode cX9_init 113 = .ok (.sipush 4096, 3) := by decide +kernel
theorem dX9_init_116 : decode cX9_init 116 = .ok (.newarray .int, 2) := by decide +kernel
theorem dX9_init_118 : decode cX9_init 118 = .ok (.putfield 57, 3) := by decide +kernel
theorem dX9_init_121 : decode cX9_init 121 = .ok (.aload_n 0, 1) := by decide +kernel
theorem dX9_init_122 : decode cX9_init 122 = .ok (.sipush 4096, 3) := by decide +kernel
theorem dX9_init_125 : decode cX9_init 125 = .ok (.newarray .int, 2) := by decide +kernel
theorem dX9_init_127 : decode cX9_init 127 = .ok (.putfield 60, 3) := by decide +kernel
theorem dX9_init_130 : decode cX9_init 130 = .ok (.aload_n 0, 1) := by decide +kernel
theorem dX9_init_131 : decode cX9_init 131 = .ok (.sipush 4096, 3) := by decide +kernel
theorem dX9_init_134 : decode cX9_init 134 = .ok (.newarray .int, 2) := by decide +kernel
theorem dX9_init_136 : decode cX9_init 136 = .ok (.putfield 63, 3) := by decide +kernel
theorem dX9_init_139 : decode cX9_init 139 = .ok (.aload_n 0, 1) := by decide +kernel
theorem dX9_init_140 : decode cX9_init 140 = .ok (.bipush 6, 2) := by decide +kernel
theorem dX9_init_142 : decode cX9_init 142 = .ok (.newarray .int, 2) := by decide +kernel
theorem dX9_init_144 : decode cX9_init 144 = .ok (.putfield 66, 3) := by decide +kernel
theorem dX9_init_147 : decode cX9_init 147 = .ok (.return_, 1) := by decide +kernel
theorem dX9_thrown_0 : decode cX9_thrown 0 = .ok (.aload_n 0, 1) := by decide +kernel
theorem dX9_thrown_1 : decode cX9_thrown 1 = .ok (.getfield 69, 3) := by decide +kernel
theorem dX9_thrown_4 : decode cX9_thrown 4 = .ok (.ireturn, 1) := by decide +kernel
theorem dX9_refused_0 : decode cX9_refused 0 = .ok (.aload_n 0, 1) := by decide +kernel
theorem dX9_refused_1 : decode cX9_refused 1 = .ok (.iload_n 1, 1) := by decide +kernel
theorem dX9_refused_2 : decode cX9_refused 2 = .ok (.putfield 69, 3) := by decide +kernel
theorem dX9_refused_5 : decode cX9_refused 5 = .ok (.iload_n 1, 1) := by decide +kernel
theorem dX9_refused_6 : decode cX9_refused 6 = .ok (.ifCond .le 7, 3) := by decide +kernel
theorem dX9_refused_9 : decode cX9_refused 9 = .ok (.iconst 1, 1) := by decide +kernel
theorem dX9_refused_10 : decode cX9_refused 10 = .ok (.goto 4, 3) := by decide +kernel
theorem dX9_refused_13 : decode cX9_refused 13 = .ok (.iconst 0, 1) := by decide +kernel
theorem dX9_refused_14 : decode cX9_refused 14 = .ok (.ireturn, 1) := by decide +kernel
theorem dX9_in_0 : decode cX9_in 0 = .ok (.lload_n 0, 1) := by decide +kernel
theorem dX9_in_1 : decode cX9_in 1 = .ok (.lload_n 2, 1) := by decide +kernel
theorem dX9_in_2 : decode cX9_in 2 = .ok (.lcmp, 1) := by decide +kernel
theorem dX9_in_3 : decode cX9_in 3 = .ok (.ifCond .lt 14, 3) := by decide +kernel
theorem dX9_in_6 : decode cX9_in 6 = .ok (.lload_n 0, 1) := by decide +kernel
theorem dX9_in_7 : decode cX9_in 7 = .ok (.lload 4, 2) := by decide +kernel
theorem dX9_in_9 : decode cX9_in 9 = .ok (.lcmp, 1) := by decide +kernel
theorem dX9_in_10 : decode cX9_in 10 = .ok (.ifCond .gt 7, 3) := by decide +kernel
theorem dX9_in_13 : decode cX9_in 13 = .ok (.iconst 1, 1) := by decide +kernel
theorem dX9_in_14 : decode cX9_in 14 = .ok (.goto 4, 3) := by decide +kernel
theorem dX9_in_17 : decode cX9_in 17 = .ok (.iconst 0, 1) := by decide +kernel
theorem dX9_in_18 : decode cX9_in 18 = .ok (.ireturn, 1) := by decide +kernel
theorem dX9_copy_0 : decode cX9_copy 0 = .ok (.iconst 0, 1) := by decide +kernel
theorem dX9_copy_1 : decode cX9_copy 1 = .ok (.istore 5, 2) := by decide +kernel
theorem dX9_copy_3 : decode cX9_copy 3 = .ok (.iload 5, 2) := by decide +kernel
theorem dX9_copy_5 : decode cX9_copy 5 = .ok (.iload 4, 2) := by decide +kernel
theorem dX9_copy_7 : decode cX9_copy 7 = .ok (.if_icmp .ge 21, 3) := by decide +kernel
theorem dX9_copy_10 : decode cX9_copy 10 = .ok (.aload_n 2, 1) := by decide +kernel
theorem dX9_copy_11 : decode cX9_copy 11 = .ok (.iload_n 3, 1) := by decide +kernel
theorem dX9_copy_12 : decode cX9_copy 12 = .ok (.iload 5, 2) := by decide +kernel
theorem dX9_copy_14 : decode cX9_copy 14 = .ok (.iadd, 1) := by decide +kernel
theorem dX9_copy_15 : decode cX9_copy 15 = .ok (.aload_n 0, 1) := by decide +kernel
theorem dX9_copy_16 : decode cX9_copy 16 = .ok (.iload_n 1, 1) := by decide +kernel
theorem dX9_copy_17 : decode cX9_copy 17 = .ok (.iload 5, 2) := by decide +kernel
theorem dX9_copy_19 : decode cX9_copy 19 = .ok (.iadd, 1) := by decide +kernel
theorem dX9_copy_20 : decode cX9_copy 20 = .ok (.iaload, 1) := by decide +kernel
theorem dX9_copy_21 : decode cX9_copy 21 = .ok (.iastore, 1) := by decide +kernel
theorem dX9_copy_22 : decode cX9_copy 22 = .ok (.iinc 5 1, 3) := by decide +kernel
theorem dX9_copy_25 : decode cX9_copy 25 = .ok (.goto (-22), 3) := by decide +kernel
theorem dX9_copy_28 : decode cX9_copy 28 = .ok (.return_, 1) := by decide +kernel
theorem dX9_note_0 : decode cX9_note 0 = .ok (.aload_n 0, 1) := by decide +kernel
theorem dX9_note_1 : decode cX9_note 1 = .ok (.getfield 72, 3) := by decide +kernel
theorem dX9_note_4 : decode cX9_note 4 = .ok (.bipush 14, 2) := by decide +kernel
theorem dX9_note_6 : decode cX9_note 6 = .ok (.if_icmp .ne 30, 3) := by decide +kernel
theorem dX9_note_9 : decode cX9_note 9 = .ok (.aload_n 0, 1) := by decide +kernel
theorem dX9_note_10 : decode cX9_note 10 = .ok (.getfield 47, 3) := by decide +kernel
theorem dX9_note_13 : decode cX9_note 13 = .ok (.bipush 107, 2) := by decide +kernel
theorem dX9_note_15 : decode cX9_note 15 = .ok (.aload_n 0, 1) := by decide +kernel
theorem dX9_note_16 : decode cX9_note 16 = .ok (.getfield 47, 3) := by decide +kernel
theorem dX9_note_19 : decode cX9_note 19 = .ok (.iconst 0, 1) := by decide +kernel
theorem dX9_note_20 : decode cX9_note 20 = .ok (.sipush 1391, 3) := by decide +kernel
theorem dX9_note_23 : decode cX9_note 23 = .ok (.invokestatic 75, 3) := by decide +kernel
theorem dX9_note_26 : decode cX9_note 26 = .ok (.aload_n 0, 1) := by decide +kernel
theorem dX9_note_27 : decode cX9_note 27 = .ok (.dup, 1) := by decide +kernel
theorem dX9_note_28 : decode cX9_note 28 = .ok (.getfield 72, 3) := by decide +kernel
theorem dX9_note_31 : decode cX9_note 31 = .ok (.iconst 1, 1) := by decide +kernel
theorem dX9_note_32 : decode cX9_note 32 = .ok (.isub, 1) := by decide +kernel
theorem dX9_note_33 : decode cX9_note 33 = .ok (.putfield 72, 3) := by decide +kernel
theorem dX9_note_36 : decode cX9_note 36 = .ok (.aload_n 0, 1) := by decide +kernel
theorem dX9_note_37 : decode cX9_note 37 = .ok (.getfield 41, 3) := by decide +kernel
theorem dX9_note_40 : decode cX9_note 40 = .ok (.iconst 0, 1) := by decide +kernel
theorem dX9_note_41 : decode cX9_note 41 = .ok (.aload_n 0, 1) := by decide +kernel
theorem dX9_note_42 : decode cX9_note 42 = .ok (.getfield 47, 3) := by decide +kernel
theorem dX9_note_45 : decode cX9_note 45 = .ok (.bipush 107, 2) := by decide +kernel
theorem dX9_note_47 : decode cX9_note 47 = .ok (.aload_n 0, 1) := by decide +kernel
theorem dX9_note_48 : decode cX9_note 48 = .ok (.getfield 72, 3) := by decide +kernel
theorem dX9_note_51 : decode cX9_note 51 = .ok (.imul, 1) := by decide +kernel
theorem dX9_note_52 : decode cX9_note 52 = .ok (.bipush 107, 2) := by decide +kernel
theorem dX9_note_54 : decode cX9_note 54 = .ok (.invokestatic 75, 3) := by decide +kernel
theorem dX9_note_57 : decode cX9_note 57 = .ok (.aload_n 0, 1) := by decide +kernel
theorem dX9_note_58 : decode cX9_note 58 = .ok (.dup, 1) := by decide +kernel
theorem dX9_note_59 : decode cX9_note 59 = .ok (.getfield 72, 3) := by decide +kernel
theorem dX9_note_62 : decode cX9_note 62 = .ok (.iconst 1, 1) := by decide +kernel
theorem dX9_note_63 : decode cX9_note 63 = .ok (.iadd, 1) := by decide +kernel
theorem dX9_note_64 : decode cX9_note 64 = .ok (.putfield 72, 3) := by decide +kernel
theorem dX9_note_67 : decode cX9_note 67 = .ok (.return_, 1) := by decide +kernel
theorem dX9_change_0 : decode cX9_change 0 = .ok (.aload_n 0, 1) := by decide +kernel
theorem dX9_change_1 : decode cX9_change 1 = .ok (.invokevirtual 79, 3) := by decide +kernel
theorem dX9_change_4 : decode cX9_change 4 = .ok (.aload_n 0, 1) := by decide +kernel
theorem dX9_change_5 : decode cX9_change 5 = .ok (.getfield 41, 3) := by decide +kernel
theorem dX9_change_8 : decode cX9_change 8 = .ok (.iload_n 1, 1) := by decide +kernel
theorem dX9_change_9 : decode cX9_change 9 = .ok (.iaload, 1) := by decide +kernel
theorem dX9_change_10 : decode cX9_change 10 = .ok (.istore_n 3, 1) := by decide +kernel
theorem dX9_change_11 : decode cX9_change 11 = .ok (.aload_n 0, 1) := by decide +kernel
theorem dX9_change_12 : decode cX9_change 12 = .ok (.getfield 41, 3) := by decide +kernel
theorem dX9_change_15 : decode cX9_change 15 = .ok (.iload_n 1, 1) := by decide +kernel
theorem dX9_change_16 : decode cX9_change 16 = .ok (.iload_n 2, 1) := by decide +kernel
theorem dX9_change_17 : decode cX9_change 17 = .ok (.iastore, 1) := by decide +kernel
theorem dX9_change_18 : decode cX9_change 18 = .ok (.iload_n 3, 1) := by decide +kernel
theorem dX9_change_19 : decode cX9_change 19 = .ok (.ireturn, 1) := by decide +kernel
theorem dX9_at_0 : decode cX9_at 0 = .ok (.iconst 2, 1) := by decide +kernel
theorem dX9_at_1 : decode cX9_at 1 = .ok (.bipush 15, 2) := by decide +kernel
theorem dX9_at_3 : decode cX9_at 3 = .ok (.iload_n 0, 1) := by decide +kernel
theorem dX9_at_4 : decode cX9_at 4 = .ok (.imul, 1) := by decide +kernel
theorem dX9_at_5 : decode cX9_at 5 = .ok (.iadd, 1) := by decide +kernel
theorem dX9_at_6 : decode cX9_at 6 = .ok (.ireturn, 1) := by decide +kernel
theorem dX9_partAt_0 : decode cX9_partAt 0 = .ok (.bipush 77, 2) := by decide +kernel
theorem dX9_partAt_2 : decode cX9_partAt 2 = .ok (.iconst 5, 1) := by decide +kernel
theorem dX9_partAt_3 : decode cX9_partAt 3 = .ok (.iload_n 0, 1) := by decide +kernel
theorem dX9_partAt_4 : decode cX9_partAt 4 = .ok (.imul, 1) := by decide +kernel
theorem dX9_partAt_5 : decode cX9_partAt 5 = .ok (.iadd, 1) := by decide +kernel
theorem dX9_partAt_6 : decode cX9_partAt 6 = .ok (.ireturn, 1) := by decide +kernel
theorem dX9_isNode_0 : decode cX9_isNode 0 = .ok (.iload_n 1, 1) := by decide +kernel
theorem dX9_isNode_1 : decode cX9_isNode 1 = .ok (.i2l, 1) := by decide +kernel
theorem dX9_isNode_2 : decode cX9_isNode 2 = .ok (.lconst 0, 1) := by decide +kernel
theorem dX9_isNode_3 : decode cX9_isNode 3 = .ok (.aload_n 0, 1) := by decide +kernel
theorem dX9_isNode_4 : decode cX9_isNode 4 = .ok (.getfield 13, 3) := by decide +kernel
theorem dX9_isNode_7 : decode cX9_isNode 7 = .ok (.iconst 1, 1) := by decide +kernel
theorem dX9_isNode_8 : decode cX9_isNode 8 = .ok (.isub, 1) := by decide +kernel
theorem dX9_isNode_9 : decode cX9_isNode 9 = .ok (.i2l, 1) := by decide +kernel
theorem dX9_isNode_10 : decode cX9_isNode 10 = .ok (.invokestatic 82, 3) := by decide +kernel
theorem dX9_isNode_13 : decode cX9_isNode 13 = .ok (.ireturn, 1) := by decide +kernel
theorem dX9_isPart_0 : decode cX9_isPart 0 = .ok (.iload_n 1, 1) := by decide +kernel
theorem dX9_isPart_1 : decode cX9_isPart 1 = .ok (.i2l, 1) := by decide +kernel
theorem dX9_isPart_2 : decode cX9_isPart 2 = .ok (.lconst 0, 1) := by decide +kernel
theorem dX9_isPart_3 : decode cX9_isPart 3 = .ok (.aload_n 0, 1) := by decide +kernel
theorem dX9_isPart_4 : decode cX9_isPart 4 = .ok (.getfield 17, 3) := by decide +kernel
theorem dX9_isPart_7 : decode cX9_isPart 7 = .ok (.iconst 1, 1) := by decide +kernel
theorem dX9_isPart_8 : decode cX9_isPart 8 = .ok (.isub, 1) := by decide +kernel
theorem dX9_isPart_9 : decode cX9_isPart 9 = .ok (.i2l, 1) := by decide +kernel
theorem dX9_isPart_10 : decode cX9_isPart 10 = .ok (.invokestatic 82, 3) := by decide +kernel
theorem dX9_isPart_13 : decode cX9_isPart 13 = .ok (.ireturn, 1) := by decide +kernel
theorem dX9_isVersion_0 : decode cX9_isVersion 0 = .ok (.iload_n 0, 1) := by decide +kernel
theorem dX9_isVersion_1 : decode cX9_isVersion 1 = .ok (.i2l, 1) := by decide +kernel
theorem dX9_isVersion_2 : decode cX9_isVersion 2 = .ok (.lconst 0, 1) := by decide +kernel
theorem dX9_isVersion_3 : decode cX9_isVersion 3 = .ok (.ldc2_w 86, 3) := by decide +kernel
theorem dX9_isVersion_6 : decode cX9_isVersion 6 = .ok (.invokestatic 82, 3) := by decide +kernel
theorem dX9_isVersion_9 : decode cX9_isVersion 9 = .ok (.ireturn, 1) := by decide +kernel
theorem dX9_append_0 : decode cX9_append 0 = .ok (.aload_n 0, 1) := by decide +kernel
theorem dX9_append_1 : decode cX9_append 1 = .ok (.iload_n 1, 1) := by decide +kernel
theorem dX9_append_2 : decode cX9_append 2 = .ok (.i2l, 1) := by decide +kernel
theorem dX9_append_3 : decode cX9_append 3 = .ok (.lconst 0, 1) := by decide +kernel
theorem dX9_append_4 : decode cX9_append 4 = .ok (.ldc2_w 88, 3) := by decide +kernel
theorem dX9_append_7 : decode cX9_append 7 = .ok (.invokestatic 82, 3) := by decide +kernel
theorem dX9_append_10 : decode cX9_append 10 = .ok (.ifCond .ne 7, 3) := by decide +kernel
theorem dX9_append_13 : decode cX9_append 13 = .ok (.iconst 1, 1) := by decide +kernel
theorem dX9_append_14 : decode cX9_append 14 = .ok (.goto 18, 3) := by decide +kernel
theorem dX9_append_17 : decode cX9_append 17 = .ok (.aload_n 0, 1) := by decide +kernel
theorem dX9_append_18 : decode cX9_append 18 = .ok (.getfield 90, 3) := by decide +kernel
theorem dX9_append_21 : decode cX9_append 21 = .ok (.sipush 160, 3) := by decide +kernel
theorem dX9_append_24 : decode cX9_append 24 = .ok (.if_icmp .ne 7, 3) := by decide +kernel
theorem dX9_append_27 : decode cX9_append 27 = .ok (.iconst 2, 1) := by decide +kernel
theorem dX9_append_28 : decode cX9_append 28 = .ok (.goto 4, 3) := by decide +kernel
theorem dX9_append_31 : decode cX9_append 31 = .ok (.iconst 0, 1) := by decide +kernel
theorem dX9_append_32 : decode cX9_append 32 = .ok (.invokevirtual 93, 3) := by decide +kernel
theorem dX9_append_35 : decode cX9_append 35 = .ok (.ifCond .eq 5, 3) := by decide +kernel
theorem dX9_append_38 : decode cX9_append 38 = .ok (.iconst 0, 1) := by decide +kernel
theorem dX9_append_39 : decode cX9_append 39 = .ok (.ireturn, 1) := by decide +kernel
theorem dX9_append_40 : decode cX9_append 40 = .ok (.aload_n 0, 1) := by decide +kernel
theorem dX9_append_41 : decode cX9_append 41 = .ok (.getfield 7, 3) := by decide +kernel
theorem dX9_append_44 : decode cX9_append 44 = .ok (.aload_n 0, 1) := by decide +kernel
theorem dX9_append_45 : decode cX9_append 45 = .ok (.getfield 90, 3) := by decide +kernel
theorem dX9_append_48 : decode cX9_append 48 = .ok (.iload_n 1, 1) := by decide +kernel
theorem dX9_append_49 : decode cX9_append 49 = .ok (.iastore, 1) := by decide +kernel
theorem dX9_append_50 : decode cX9_append 50 = .ok (.aload_n 0, 1) := by decide +kernel
theorem dX9_append_51 : decode cX9_append 51 = .ok (.dup, 1) := by decide +kernel
theorem dX9_append_52 : decode cX9_append 52 = .ok (.getfield 90, 3) := by decide +kernel
theorem dX9_append_55 : decode cX9_append 55 = .ok (.iconst 1, 1) := by decide +kernel
theorem dX9_append_56 : decode cX9_append 56 = .ok (.iadd, 1) := by decide +kernel
theorem dX9_append_57 : decode cX9_append 57 = .ok (.putfield 90, 3) := by decide +kernel
theorem dX9_append_60 : decode cX9_append 60 = .ok (.aload_n 0, 1) := by decide +kernel
theorem dX9_append_61 : decode cX9_append 61 = .ok (.getfield 90, 3) := by decide +kernel
theorem dX9_append_64 : decode cX9_append 64 = .ok (.ireturn, 1) := by decide +kernel
theorem dX9_clearText_0 : decode cX9_clearText 0 = .ok (.aload_n 0, 1) := by decide +kernel
theorem dX9_clearText_1 : decode cX9_clearText 1 = .ok (.iconst 0, 1) := by decide +kernel
theorem dX9_clearText_2 : decode cX9_clearText 2 = .ok (.putfield 69, 3) := by decide +kernel
theorem dX9_clearText_5 : decode cX9_clearText 5 = .ok (.aload_n 0, 1) := by decide +kernel
theorem dX9_clearText_6 : decode cX9_clearText 6 = .ok (.getfield 90, 3) := by decide +kernel
theorem dX9_clearText_9 : decode cX9_clearText 9 = .ok (.istore_n 1, 1) := by decide +kernel
theorem dX9_clearText_10 : decode cX9_clearText 10 = .ok (.aload_n 0, 1) := by decide +kernel
theorem dX9_clearText_11 : decode cX9_clearText 11 = .ok (.iconst 0, 1) := by decide +kernel
theorem dX9_clearText_12 : decode cX9_clearText 12 = .ok (.putfield 90, 3) := by decide +kernel
theorem dX9_clearText_15 : decode cX9_clearText 15 = .ok (.iload_n 1, 1) := by decide +kernel
theorem dX9_clearText_16 : decode cX9_clearText 16 = .ok (.ireturn, 1) := by decide +kernel
theorem dX9_passes_0 : decode cX9_passes 0 = .ok (.aload_n 0, 1) := by decide +kernel
theorem dX9_passes_1 : decode cX9_passes 1 = .ok (.getfield 97, 3) := by decide +kernel
theorem dX9_passes_4 : decode cX9_passes 4 = .ok (.aload_n 0, 1) := by decide +kernel
theorem dX9_passes_5 : decode cX9_passes 5 = .ok (.getfield 90, 3) := by decide +kernel
theorem dX9_passes_8 : decode cX9_passes 8 = .ok (.if_icmp .ge 20, 3) := by decide +kernel
theorem dX9_passes_11 : decode cX9_passes 11 = .ok (.aload_n 0, 1) := by decide +kernel
theorem dX9_passes_12 : decode cX9_passes 12 = .ok (.getfield 7, 3) := by decide +kernel
theorem dX9_passes_15 : decode cX9_passes 15 = .ok (.aload_n 0, 1) := by decide +kernel
theorem dX9_passes_16 : decode cX9_passes 16 = .ok (.getfield 97, 3) := by decide +kernel
theorem dX9_passes_19 : decode cX9_passes 19 = .ok (.iaload, 1) := by decide +kernel
theorem dX9_passes_20 : decode cX9_passes 20 = .ok (.iload_n 1, 1) := by decide +kernel
theorem dX9_passes_21 : decode cX9_passes 21 = .ok (.if_icmp .ne 7, 3) := by decide +kernel
theorem dX9_passes_24 : decode cX9_passes 24 = .ok (.iconst 1, 1) := by decide +kernel
theorem dX9_passes_25 : decode cX9_passes 25 = .ok (.goto 4, 3) := by decide +kernel
theorem dX9_passes_28 : decode cX9_passes 28 = .ok (.iconst 0, 1) := by decide +kernel
theorem dX9_passes_29 : decode cX9_passes 29 = .ok (.istore_n 2, 1) := by decide +kernel
theorem dX9_passes_30 : decode cX9_passes 30 = .ok (.aload_n 0, 1) := by decide +kernel
theorem dX9_passes_31 : decode cX9_passes 31 = .ok (.dup, 1) := by decide +kernel
theorem dX9_passes_32 : decode cX9_passes 32 = .ok (.getfield 97, 3) := by decide +kernel
theorem dX9_passes_35 : decode cX9_passes 35 = .ok (.iload_n 2, 1) := by decide +kernel
theorem dX9_passes_36 : decode cX9_passes 36 = .ok (.ifCond .eq 7, 3) := by decide +kernel
theorem dX9_passes_39 : decode cX9_passes 39 = .ok (.iconst 1, 1) := by decide +kernel
theorem dX9_passes_40 : decode cX9_passes 40 = .ok (.goto 4, 3) := by decide +kernel
theorem dX9_passes_43 : decode cX9_passes 43 = .ok (.iconst 0, 1) := by decide +kernel
theorem dX9_passes_44 : decode cX9_passes 44 = .ok (.iadd, 1) := by decide +kernel
theorem dX9_passes_45 : decode cX9_passes 45 = .ok (.putfield 97, 3) := by decide +kernel
theorem dX9_passes_48 : decode cX9_passes 48 = .ok (.iload_n 2, 1) := by decide +kernel
theorem dX9_passes_49 : decode cX9_passes 49 = .ok (.ireturn, 1) := by decide +kernel
theorem dX9_digit_0 : decode cX9_digit 0 = .ok (.aload_n 0, 1) := by decide +kernel
theorem dX9_digit_1 : decode cX9_digit 1 = .ok (.getfield 97, 3) := by decide +kernel
theorem dX9_digit_4 : decode cX9_digit 4 = .ok (.aload_n 0, 1) := by decide +kernel
theorem dX9_digit_5 : decode cX9_digit 5 = .ok (.getfield 90, 3) := by decide +kernel
theorem dX9_digit_8 : decode cX9_digit 8 = .ok (.if_icmp .ge 18, 3) := by decide +kernel
theorem dX9_digit_11 : decode cX9_digit 11 = .ok (.aload_n 0, 1) := by decide +kernel
theorem dX9_digit_12 : decode cX9_digit 12 = .ok (.getfield 7, 3) := by decide +kernel
theorem dX9_digit_15 : decode cX9_digit 15 = .ok (.aload_n 0, 1) := by decide +kernel
theorem dX9_digit_16 : decode cX9_digit 16 = .ok (.getfield 97, 3) := by decide +kernel
theorem dX9_digit_19 : decode cX9_digit 19 = .ok (.iaload, 1) := by decide +kernel
theorem dX9_digit_20 : decode cX9_digit 20 = .ok (.bipush 48, 2) := by decide +kernel
theorem dX9_digit_22 : decode cX9_digit 22 = .ok (.isub, 1) := by decide +kernel
theorem dX9_digit_23 : decode cX9_digit 23 = .ok (.goto 5, 3) := by decide +kernel
theorem dX9_digit_26 : decode cX9_digit 26 = .ok (.bipush (-9), 2) := by decide +kernel
theorem dX9_digit_28 : decode cX9_digit 28 = .ok (.istore 4, 2) := by decide +kernel
theorem dX9_digit_30 : decode cX9_digit 30 = .ok (.iload 4, 2) := by decide +kernel
theorem dX9_digit_32 : decode cX9_digit 32 = .ok (.i2l, 1) := by decide +kernel
theorem dX9_digit_33 : decode cX9_digit 33 = .ok (.iload_n 1, 1) := by decide +kernel
theorem dX9_digit_34 : decode cX9_digit 34 = .ok (.i2l, 1) := by decide +kernel
theorem dX9_digit_35 : decode cX9_digit 35 = .ok (.iload_n 2, 1) := by decide +kernel
theorem dX9_digit_36 : decode cX9_digit 36 = .ok (.i2l, 1) := by decide +kernel
theorem dX9_digit_37 : decode cX9_digit 37 = .ok (.invokestatic 82, 3) := by decide +kernel
theorem dX9_digit_40 : decode cX9_digit 40 = .ok (.ifCond .eq 9, 3) := by decide +kernel
theorem dX9_digit_43 : decode cX9_digit 43 = .ok (.iload 4, 2) := by decide +kernel
theorem dX9_digit_45 : decode cX9_digit 45 = .ok (.iload_n 3, 1) := by decide +kernel
theorem dX9_digit_46 : decode cX9_digit 46 = .ok (.if_icmp .ne 6, 3) := by decide +kernel
theorem dX9_digit_49 : decode cX9_digit 49 = .ok (.bipush (-9), 2) := by decide +kernel
theorem dX9_digit_51 : decode cX9_digit 51 = .ok (.ireturn, 1) := by decide +kernel
theorem dX9_digit_52 : decode cX9_digit 52 = .ok (.aload_n 0, 1) := by decide +kernel
theorem dX9_digit_53 : decode cX9_digit 53 = .ok (.dup, 1) := by decide +kernel
theorem dX9_digit_54 : decode cX9_digit 54 = .ok (.getfield 97, 3) := by decide +kernel
theorem dX9_digit_57 : decode cX9_digit 57 = .ok (.iconst 1, 1) := by decide +kernel
theorem dX9_digit_58 : decode cX9_digit 58 = .ok (.iadd, 1) := by decide +kernel
theorem dX9_digit_59 : decode cX9_digit 59 = .ok (.putfield 97, 3) := by decide +kernel
theorem dX9_digit_62 : decode cX9_digit 62 = .ok (.iload 4, 2) := by decide +kernel
theorem dX9_digit_64 : decode cX9_digit 64 = .ok (.ireturn, 1) := by decide +kernel
theorem dX9_readHead_0 : decode cX9_readHead 0 = .ok (.aload_n 0, 1) := by decide +kernel
theorem dX9_readHead_1 : decode cX9_readHead 1 = .ok (.bipush 68, 2) := by decide +kernel
theorem dX9_readHead_3 : decode cX9_readHead 3 = .ok (.invokevirtual 100, 3) := by decide +kernel
theorem dX9_readHead_6 : decode cX9_readHead 6 = .ok (.ifCond .ne 5, 3) := by decide +kernel
theorem dX9_readHead_9 : decode cX9_readHead 9 = .ok (.iconst 0, 1) := by decide +kernel
theorem dX9_readHead_10 : decode cX9_readHead 10 = .ok (.ireturn, 1) := by decide +kernel
theorem dX9_readHead_11 : decode cX9_readHead 11 = .ok (.aload_n 0, 1) := by decide +kernel
theorem dX9_readHead_12 : decode cX9_readHead 12 = .ok (.aload_n 0, 1) := by decide +kernel
theorem dX9_readHead_13 : decode cX9_readHead 13 = .ok (.iconst 1, 1) := by decide +kernel
theorem dX9_readHead_14 : decode cX9_readHead 14 = .ok (.iconst 5, 1) := by decide +kernel
theorem dX9_readHead_15 : decode cX9_readHead 15 = .ok (.bipush (-9), 2) := by decide +kernel
theorem dX9_readHead_17 : decode cX9_readHead 17 = .ok (.invokevirtual 103, 3) := by decide +kernel
theorem dX9_readHead_20 : decode cX9_readHead 20 = .ok (.putfield 107, 3) := by decide +kernel
theorem dX9_readHead_23 : decode cX9_readHead 23 = .ok (.aload_n 0, 1) := by decide +kernel
theorem dX9_readHead_24 : decode cX9_readHead 24 = .ok (.aload_n 0, 1) := by decide +kernel
theorem dX9_readHead_25 : decode cX9_readHead 25 = .ok (.getfield 107, 3) := by decide +kernel
theorem dX9_readHead_28 : decode cX9_readHead 28 = .ok (.bipush (-9), 2) := by decide +kernel
theorem dX9_readHead_30 : decode cX9_readHead 30 = .ok (.if_icmp .ne 8, 3) := by decide +kernel
theorem dX9_readHead_33 : decode cX9_readHead 33 = .ok (.bipush (-9), 2) := by decide +kernel
theorem dX9_readHead_35 : decode cX9_readHead 35 = .ok (.goto 12, 3) := by decide +kernel
theorem dX9_readHead_38 : decode cX9_readHead 38 = .ok (.aload_n 0, 1) := by decide +kernel
theorem dX9_readHead_39 : decode cX9_readHead 39 = .ok (.iconst 1, 1) := by decide +kernel
theorem dX9_readHead_40 : decode cX9_readHead 40 = .ok (.bipush 6, 2) := by decide +kernel
theorem dX9_readHead_42 : decode cX9_readHead 42 = .ok (.bipush (-9), 2) := by decide +kernel
theorem dX9_readHead_44 : decode cX9_readHead 44 = .ok (.invokevirtual 103, 3) := by decide +kernel
theorem dX9_readHead_47 : decode cX9_readHead 47 = .ok (.putfield 110, 3) := by decide +kernel
theorem dX9_readHead_50 : decode cX9_readHead 50 = .ok (.aload_n 0, 1) := by decide +kernel
theorem dX9_readHead_51 : decode cX9_readHead 51 = .ok (.aload_n 0, 1) := by decide +kernel
theorem dX9_readHead_52 : decode cX9_readHead 52 = .ok (.getfield 110, 3) := by decide +kernel
theorem dX9_readHead_55 : decode cX9_readHead 55 = .ok (.bipush (-9), 2) := by decide +kernel
theorem dX9_readHead_57 : decode cX9_readHead 57 = .ok (.if_icmp .ne 8, 3) := by decide +kernel
theorem dX9_readHead_60 : decode cX9_readHead 60 = .ok (.bipush (-9), 2) := by decide +kernel
theorem dX9_readHead_62 : decode cX9_readHead 62 = .ok (.goto 12, 3) := by decide +kernel
theorem dX9_readHead_65 : decode cX9_readHead 65 = .ok (.aload_n 0, 1) := by decide +kernel
theorem dX9_readHead_66 : decode cX9_readHead 66 = .ok (.iconst 1, 1) := by decide +kernel
theorem dX9_readHead_67 : decode cX9_readHead 67 = .ok (.bipush 9, 2) := by decide +kernel
theorem dX9_readHead_69 : decode cX9_readHead 69 = .ok (.bipush (-9), 2) := by decide +kernel
theorem dX9_readHead_71 : decode cX9_readHead 71 = .ok (.invokevirtual 103, 3) := by decide +kernel
theorem dX9_readHead_74 : decode cX9_readHead 74 = .ok (.putfield 113, 3) := by decide +kernel
theorem dX9_readHead_77 : decode cX9_readHead 77 = .ok (.aload_n 0, 1) := by decide +kernel
theorem dX9_readHead_78 : decode cX9_readHead 78 = .ok (.getfield 113, 3) := by decide +kernel
theorem dX9_readHead_81 : decode cX9_readHead 81 = .ok (.bipush (-9), 2) := by decide +kernel
theorem dX9_readHead_83 : decode cX9_readHead 83 = .ok (.if_icmp .ne 8, 3) := by decide +kernel
theorem dX9_readHead_86 : decode cX9_readHead 86 = .ok (.bipush (-9), 2) := by decide +kernel
theorem dX9_readHead_88 : decode cX9_readHead 88 = .ok (.goto 11, 3) := by decide +kernel
theorem dX9_readHead_91 : decode cX9_readHead 91 = .ok (.aload_n 0, 1) := by decide +kernel
theorem dX9_readHead_92 : decode cX9_readHead 92 = .ok (.iconst 0, 1) := by decide +kernel
theorem dX9_readHead_93 : decode cX9_readHead 93 = .ok (.iconst 5, 1) := by decide +kernel
theorem dX9_readHead_94 : decode cX9_readHead 94 = .ok (.bipush (-9), 2) := by decide +kernel
theorem dX9_readHead_96 : decode cX9_readHead 96 = .ok (.invokevirtual 103, 3) := by decide +kernel
theorem dX9_readHead_99 : decode cX9_readHead 99 = .ok (.istore_n 1, 1) := by decide +kernel
theorem dX9_readHead_100 : decode cX9_readHead 100 = .ok (.iload_n 1, 1) := by decide +kernel
theorem dX9_readHead_101 : decode cX9_readHead 101 = .ok (.bipush (-9), 2) := by decide +kernel
theorem dX9_readHead_103 : decode cX9_readHead 103 = .ok (.if_icmp .ne 8, 3) := by decide +kernel
theorem dX9_readHead_106 : decode cX9_readHead 106 = .ok (.bipush (-9), 2) := by decide +kernel
theorem dX9_readHead_108 : decode cX9_readHead 108 = .ok (.goto 29, 3) := by decide +kernel
theorem dX9_readHead_111 : decode cX9_readHead 111 = .ok (.aload_n 0, 1) := by decide +kernel
theorem dX9_readHead_112 : decode cX9_readHead 112 = .ok (.iload_n 1, 1) := by decide +kernel
theorem dX9_readHead_113 : decode cX9_readHead 113 = .ok (.ifCond .ne 7, 3) := by decide +kernel
theorem dX9_readHead_116 : decode cX9_readHead 116 = .ok (.iconst 1, 1) := by decide +kernel
theorem dX9_readHead_117 : decode cX9_readHead 117 = .ok (.goto 4, 3) := by decide +kernel
theorem dX9_readHead_120 : decode cX9_readHead 120 = .ok (.iconst 0, 1) := by decide +kernel
theorem dX9_readHead_121 : decode cX9_readHead 121 = .ok (.iload_n 1, 1) := by decide +kernel
theorem dX9_readHead_122 : decode cX9_readHead 122 = .ok (.iconst 5, 1) := by decide +kernel
theorem dX9_readHead_123 : decode cX9_readHead 123 = .ok (.if_icmp .ne 7, 3) := by decide +kernel
theorem dX9_readHead_126 : decode cX9_readHead 126 = .ok (.iconst 0, 1) := by decide +kernel
theorem dX9_readHead_127 : decode cX9_readHead 127 = .ok (.goto 5, 3) := by decide +kernel
theorem dX9_readHead_130 : decode cX9_readHead 130 = .ok (.bipush 9, 2) := by decide +kernel
theorem dX9_readHead_132 : decode cX9_readHead 132 = .ok (.bipush (-9), 2) := by decide +kernel
theorem dX9_readHead_134 : decode cX9_readHead 134 = .ok (.invokevirtual 103, 3) := by decide +kernel
theorem dX9_readHead_137 : decode cX9_readHead 137 = .ok (.istore_n 2, 1) := by decide +kernel
theorem dX9_readHead_138 : decode cX9_readHead 138 = .ok (.aload_n 0, 1) := by decide +kernel
theorem dX9_readHead_139 : decode cX9_readHead 139 = .ok (.bipush 10, 2) := by decide +kernel
theorem dX9_readHead_141 : decode cX9_readHead 141 = .ok (.iload_n 1, 1) := by decide +kernel
theorem dX9_readHead_142 : decode cX9_readHead 142 = .ok (.imul, 1) := by decide +kernel
theorem dX9_readHead_143 : decode cX9_readHead 143 = .ok (.iload_n 2, 1) := by decide +kernel
theorem dX9_readHead_144 : decode cX9_readHead 144 = .ok (.iadd, 1) := by decide +kernel
theorem dX9_readHead_145 : decode cX9_readHead 145 = .ok (.putfield 116, 3) := by decide +kernel
theorem dX9_readHead_148 : decode cX9_readHead 148 = .ok (.iload_n 2, 1) := by decide +kernel
theorem dX9_readHead_149 : decode cX9_readHead 149 = .ok (.bipush (-9), 2) := by decide +kernel
theorem dX9_readHead_151 : decode cX9_readHead 151 = .ok (.if_icmp .eq 7, 3) := by decide +kernel
theorem dX9_readHead_154 : decode cX9_readHead 154 = .ok (.iconst 1, 1) := by decide +kernel
theorem dX9_readHead_155 : decode cX9_readHead 155 = .ok (.goto 4, 3) := by decide +kernel
theorem dX9_readHead_158 : decode cX9_readHead 158 = .ok (.iconst 0, 1) := by decide +kernel
theorem dX9_readHead_159 : decode cX9_readHead 159 = .ok (.istore_n 3, 1) := by decide +kernel
theorem dX9_readHead_160 : decode cX9_readHead 160 = .ok (.iconst 0, 1) := by decide +kernel
theorem dX9_readHead_161 : decode cX9_readHead 161 = .ok (.istore 4, 2) := by decide +kernel
theorem dX9_readHead_163 : decode cX9_readHead 163 = .ok (.iload 4, 2) := by decide +kernel
theorem dX9_readHead_165 : decode cX9_readHead 165 = .ok (.aload_n 0, 1) := by decide +kernel
theorem dX9_readHead_166 : decode cX9_readHead 166 = .ok (.getfield 107, 3) := by decide +kernel
theorem dX9_readHead_169 : decode cX9_readHead 169 = .ok (.if_icmp .ge 46, 3) := by decide +kernel
theorem dX9_readHead_172 : decode cX9_readHead 172 = .ok (.iload_n 3, 1) := by decide +kernel
theorem dX9_readHead_173 : decode cX9_readHead 173 = .ok (.ifCond .eq 42, 3) := by decide +kernel
theorem dX9_readHead_176 : decode cX9_readHead 176 = .ok (.aload_n 0, 1) := by decide +kernel
theorem dX9_readHead_177 : decode cX9_readHead 177 = .ok (.getfield 32, 3) := by decide +kernel
theorem dX9_readHead_180 : decode cX9_readHead 180 = .ok (.iload 4, 2) := by decide +kernel
theorem dX9_readHead_182 : decode cX9_readHead 182 = .ok (.aload_n 0, 1) := by decide +kernel
theorem dX9_readHead_183 : decode cX9_readHead 183 = .ok (.iconst 0, 1) := by decide +kernel
theorem dX9_readHead_184 : decode cX9_readHead 184 = .ok (.iconst 2, 1) := by decide +kernel
theorem dX9_readHead_185 : decode cX9_readHead 185 = .ok (.bipush (-9), 2) := by decide +kernel
theorem dX9_readHead_187 : decode cX9_readHead 187 = .ok (.invokevirtual 103, 3) := by decide +kernel
theorem dX9_readHead_190 : decode cX9_readHead 190 = .ok (.iastore, 1) := by decide +kernel
theorem dX9_readHead_191 : decode cX9_readHead 191 = .ok (.aload_n 0, 1) := by decide +kernel
theorem dX9_readHead_192 : decode cX9_readHead 192 = .ok (.getfield 32, 3) := by decide +kernel
theorem dX9_readHead_195 : decode cX9_readHead 195 = .ok (.iload 4, 2) := by decide +kernel
theorem dX9_readHead_197 : decode cX9_readHead 197 = .ok (.iaload, 1) := by decide +kernel
theorem dX9_readHead_198 : decode cX9_readHead 198 = .ok (.bipush (-9), 2) := by decide +kernel
theorem dX9_readHead_200 : decode cX9_readHead 200 = .ok (.if_icmp .eq 7, 3) := by decide +kernel
theorem dX9_readHead_203 : decode cX9_readHead 203 = .ok (.iconst 1, 1) := by decide +kernel
theorem dX9_readHead_204 : decode cX9_readHead 204 = .ok (.goto 4, 3) := by decide +kernel
theorem dX9_readHead_207 : decode cX9_readHead 207 = .ok (.iconst 0, 1) := by decide +kernel
theorem dX9_readHead_208 : decode cX9_readHead 208 = .ok (.istore_n 3, 1) := by decide +kernel
theorem dX9_readHead_209 : decode cX9_readHead 209 = .ok (.iinc 4 1, 3) := by decide +kernel
theorem dX9_readHead_212 : decode cX9_readHead 212 = .ok (.goto (-49), 3) := by decide +kernel
theorem dX9_readHead_215 : decode cX9_readHead 215 = .ok (.iconst 0, 1) := by decide +kernel
theorem dX9_readHead_216 : decode cX9_readHead 216 = .ok (.istore 4, 2) := by decide +kernel
theorem dX9_readHead_218 : decode cX9_readHead 218 = .ok (.iload 4, 2) := by decide +kernel
theorem dX9_readHead_220 : decode cX9_readHead 220 = .ok (.aload_n 0, 1) := by decide +kernel
theorem dX9_readHead_221 : decode cX9_readHead 221 = .ok (.getfield 110, 3) := by decide +kernel
theorem dX9_readHead_224 : decode cX9_readHead 224 = .ok (.if_icmp .ge 56, 3) := by decide +kernel
theorem dX9_readHead_227 : decode cX9_readHead 227 = .ok (.iload_n 3, 1) := by decide +kernel
theorem dX9_readHead_228 : decode cX9_readHead 228 = .ok (.ifCond .eq 52, 3) := by decide +kernel
theorem dX9_readHead_231 : decode cX9_readHead 231 = .ok (.aload_n 0, 1) := by decide +kernel
theorem dX9_readHead_232 : decode cX9_readHead 232 = .ok (.iconst 0, 1) := by decide +kernel
theorem dX9_readHead_233 : decode cX9_readHead 233 = .ok (.iconst 5, 1) := by decide +kernel
theorem dX9_readHead_234 : decode cX9_readHead 234 = .ok (.bipush (-9), 2) := by decide +kernel
theorem dX9_readHead_236 : decode cX9_readHead 236 = .ok (.invokevirtual 103, 3) := by decide +kernel
theorem dX9_readHead_239 : decode cX9_readHead 239 = .ok (.istore 5, 2) := by decide +kernel
theorem dX9_readHead_241 : decode cX9_readHead 241 = .ok (.iload 5, 2) := by decide +kernel
theorem dX9_readHead_243 : decode cX9_readHead 243 = .ok (.bipush (-9), 2) := by decide +kernel
theorem dX9_readHead_245 : decode cX9_readHead 245 = .ok (.if_icmp .eq 7, 3) := by decide +kernel
theorem dX9_readHead_248 : decode cX9_readHead 248 = .ok (.iconst 1, 1) := by decide +kernel
theorem dX9_readHead_249 : decode cX9_readHead 249 = .ok (.goto 4, 3) := by decide +kernel
theorem dX9_readHead_252 : decode cX9_readHead 252 = .ok (.iconst 0, 1) := by decide +kernel
theorem dX9_readHead_253 : decode cX9_readHead 253 = .ok (.istore_n 3, 1) := by decide +kernel
theorem dX9_readHead_254 : decode cX9_readHead 254 = .ok (.aload_n 0, 1) := by decide +kernel
theorem dX9_readHead_255 : decode cX9_readHead 255 = .ok (.getfield 38, 3) := by decide +kernel
theorem dX9_readHead_258 : decode cX9_readHead 258 = .ok (.iload 4, 2) := by decide +kernel
theorem dX9_readHead_260 : decode cX9_readHead 260 = .ok (.invokestatic 119, 3) := by decide +kernel
theorem dX9_readHead_263 : decode cX9_readHead 263 = .ok (.iload_n 3, 1) := by decide +kernel
theorem dX9_readHead_264 : decode cX9_readHead 264 = .ok (.ifCond .eq 8, 3) := by decide +kernel
theorem dX9_readHead_267 : decode cX9_readHead 267 = .ok (.iload 5, 2) := by decide +kernel
theorem dX9_readHead_269 : decode cX9_readHead 269 = .ok (.goto 4, 3) := by decide +kernel
theorem dX9_readHead_272 : decode cX9_readHead 272 = .ok (.iconst 0, 1) := by decide +kernel
theorem dX9_readHead_273 : decode cX9_readHead 273 = .ok (.iastore, 1) := by decide +kernel
theorem dX9_readHead_274 : decode cX9_readHead 274 = .ok (.iinc 4 1, 3) := by decide +kernel
theorem dX9_readHead_277 : decode cX9_readHead 277 = .ok (.goto (-59), 3) := by decide +kernel
theorem dX9_readHead_280 : decode cX9_readHead 280 = .ok (.iload_n 3, 1) := by decide +kernel
theorem dX9_readHead_281 : decode cX9_readHead 281 = .ok (.ireturn, 1) := by decide +kernel
theorem dX9_readRule_0 : decode cX9_readRule 0 = .ok (.aload_n 0, 1) := by decide +kernel
theorem dX9_readRule_1 : decode cX9_readRule 1 = .ok (.iconst 0, 1) := by decide +kernel
theorem dX9_readRule_2 : decode cX9_readRule 2 = .ok (.aload_n 0, 1) := by decide +kernel
theorem dX9_readRule_3 : decode cX9_readRule 3 = .ok (.getfield 110, 3) := by decide +kernel
theorem dX9_readRule_6 : decode cX9_readRule 6 = .ok (.iconst 1, 1) := by decide +kernel
theorem dX9_readRule_7 : decode cX9_readRule 7 = .ok (.isub, 1) := by decide +kernel
theorem dX9_readRule_8 : decode cX9_readRule 8 = .ok (.bipush (-9), 2) := by decide +kernel
theorem dX9_readRule_10 : decode cX9_readRule 10 = .ok (.invokevirtual 103, 3) := by decide +kernel
theorem dX9_readRule_13 : decode cX9_readRule 13 = .ok (.istore_n 2, 1) := by decide +kernel
theorem dX9_readRule_14 : decode cX9_readRule 14 = .ok (.iload_n 2, 1) := by decide +kernel
theorem dX9_readRule_15 : decode cX9_readRule 15 = .ok (.bipush (-9), 2) := by decide +kernel
theorem dX9_readRule_17 : decode cX9_readRule 17 = .ok (.if_icmp .ne 8, 3) := by decide +kernel
theorem dX9_readRule_20 : decode cX9_readRule 20 = .ok (.bipush (-9), 2) := by decide +kernel
theorem dX9_readRule_22 : decode cX9_readRule 22 = .ok (.goto 11, 3) := by decide +kernel
theorem dX9_readRule_25 : decode cX9_readRule 25 = .ok (.aload_n 0, 1) := by decide +kernel
theorem dX9_readRule_26 : decode cX9_readRule 26 = .ok (.iconst 1, 1) := by decide +kernel
theorem dX9_readRule_27 : decode cX9_readRule 27 = .ok (.iconst 3, 1) := by decide +kernel
theorem dX9_readRule_28 : decode cX9_readRule 28 = .ok (.bipush (-9), 2) := by decide +kernel
theorem dX9_readRule_30 : decode cX9_readRule 30 = .ok (.invokevirtual 103, 3) := by decide +kernel
theorem dX9_readRule_33 : decode cX9_readRule 33 = .ok (.istore_n 3, 1) := by decide +kernel
theorem dX9_readRule_34 : decode cX9_readRule 34 = .ok (.iload_n 3, 1) := by decide +kernel
theorem dX9_readRule_35 : decode cX9_readRule 35 = .ok (.bipush (-9), 2) := by decide +kernel
theorem dX9_readRule_37 : decode cX9_readRule 37 = .ok (.if_icmp .ne 8, 3) := by decide +kernel
theorem dX9_readRule_40 : decode cX9_readRule 40 = .ok (.bipush (-9), 2) := by decide +kernel
theorem dX9_readRule_42 : decode cX9_readRule 42 = .ok (.goto 15, 3) := by decide +kernel
theorem dX9_readRule_45 : decode cX9_readRule 45 = .ok (.aload_n 0, 1) := by decide +kernel
theorem dX9_readRule_46 : decode cX9_readRule 46 = .ok (.iconst 0, 1) := by decide +kernel
theorem dX9_readRule_47 : decode cX9_readRule 47 = .ok (.aload_n 0, 1) := by decide +kernel
theorem dX9_readRule_48 : decode cX9_readRule 48 = .ok (.getfield 110, 3) := by decide +kernel
theorem dX9_readRule_51 : decode cX9_readRule 51 = .ok (.iconst 1, 1) := by decide +kernel
theorem dX9_readRule_52 : decode cX9_readRule 52 = .ok (.isub, 1) := by decide +kernel
theorem dX9_readRule_53 : decode cX9_readRule 53 = .ok (.iload_n 2, 1) := by decide +kernel
theorem dX9_readRule_54 : decode cX9_readRule 54 = .ok (.invokevirtual 103, 3) := by decide +kernel
theorem dX9_readRule_57 : decode cX9_readRule 57 = .ok (.istore 4, 2) := by decide +kernel
theorem dX9_readRule_59 : decode cX9_readRule 59 = .ok (.iload 4, 2) := by decide +kernel
theorem dX9_readRule_61 : decode cX9_readRule 61 = .ok (.bipush (-9), 2) := by decide +kernel
theorem dX9_readRule_63 : decode cX9_readRule 63 = .ok (.if_icmp .ne 8, 3) := by decide +kernel
theorem dX9_readRule_66 : decode cX9_readRule 66 = .ok (.bipush (-9), 2) := by decide +kernel
theorem dX9_readRule_68 : decode cX9_readRule 68 = .ok (.goto 11, 3) := by decide +kernel
theorem dX9_readRule_71 : decode cX9_readRule 71 = .ok (.aload_n 0, 1) := by decide +kernel
theorem dX9_readRule_72 : decode cX9_readRule 72 = .ok (.iconst 1, 1) := by decide +kernel
theorem dX9_readRule_73 : decode cX9_readRule 73 = .ok (.iconst 3, 1) := by decide +kernel
theorem dX9_readRule_74 : decode cX9_readRule 74 = .ok (.bipush (-9), 2) := by decide +kernel
theorem dX9_readRule_76 : decode cX9_readRule 76 = .ok (.invokevirtual 103, 3) := by decide +kernel
theorem dX9_readRule_79 : decode cX9_readRule 79 = .ok (.istore 5, 2) := by decide +kernel
theorem dX9_readRule_81 : decode cX9_readRule 81 = .ok (.iload 5, 2) := by decide +kernel
theorem dX9_readRule_83 : decode cX9_readRule 83 = .ok (.bipush (-9), 2) := by decide +kernel
theorem dX9_readRule_85 : decode cX9_readRule 85 = .ok (.if_icmp .ne 5, 3) := by decide +kernel
theorem dX9_readRule_88 : decode cX9_readRule 88 = .ok (.iconst 0, 1) := by decide +kernel
theorem dX9_readRule_89 : decode cX9_readRule 89 = .ok (.ireturn, 1) := by decide +kernel
theorem dX9_readRule_90 : decode cX9_readRule 90 = .ok (.iconst 5, 1) := by decide +kernel
theorem dX9_readRule_91 : decode cX9_readRule 91 = .ok (.aload_n 0, 1) := by decide +kernel
theorem dX9_readRule_92 : decode cX9_readRule 92 = .ok (.getfield 123, 3) := by decide +kernel
theorem dX9_readRule_95 : decode cX9_readRule 95 = .ok (.imul, 1) := by decide +kernel
theorem dX9_readRule_96 : decode cX9_readRule 96 = .ok (.istore 6, 2) := by decide +kernel
theorem dX9_readRule_98 : decode cX9_readRule 98 = .ok (.aload_n 0, 1) := by decide +kernel
theorem dX9_readRule_99 : decode cX9_readRule 99 = .ok (.getfield 35, 3) := by decide +kernel
theorem dX9_readRule_102 : decode cX9_readRule 102 = .ok (.iload 6, 2) := by decide +kernel
theorem dX9_readRule_104 : decode cX9_readRule 104 = .ok (.iload_n 1, 1) := by decide +kernel
theorem dX9_readRule_105 : decode cX9_readRule 105 = .ok (.iastore, 1) := by decide +kernel
theorem dX9_readRule_106 : decode cX9_readRule 106 = .ok (.aload_n 0, 1) := by decide +kernel
theorem dX9_readRule_107 : decode cX9_readRule 107 = .ok (.getfield 35, 3) := by decide +kernel
theorem dX9_readRule_110 : decode cX9_readRule 110 = .ok (.iload 6, 2) := by decide +kernel
theorem dX9_readRule_112 : decode cX9_readRule 112 = .ok (.iconst 1, 1) := by decide +kernel
theorem dX9_readRule_113 : decode cX9_readRule 113 = .ok (.iadd, 1) := by decide +kernel
theorem dX9_readRule_114 : decode cX9_readRule 114 = .ok (.iload_n 2, 1) := by decide +kernel
theorem dX9_readRule_115 : decode cX9_readRule 115 = .ok (.iastore, 1) := by decide +kernel
theorem dX9_readRule_116 : decode cX9_readRule 116 = .ok (.aload_n 0, 1) := by decide +kernel
theorem dX9_readRule_117 : decode cX9_readRule 117 = .ok (.getfield 35, 3) := by decide +kernel
theorem dX9_readRule_120 : decode cX9_readRule 120 = .ok (.iload 6, 2) := by decide +kernel
theorem dX9_readRule_122 : decode cX9_readRule 122 = .ok (.iconst 2, 1) := by decide +kernel
theorem dX9_readRule_123 : decode cX9_readRule 123 = .ok (.iadd, 1) := by decide +kernel
theorem dX9_readRule_124 : decode cX9_readRule 124 = .ok (.iload_n 3, 1) := by decide +kernel
theorem dX9_readRule_125 : decode cX9_readRule 125 = .ok (.iastore, 1) := by decide +kernel
theorem dX9_readRule_126 : decode cX9_readRule 126 = .ok (.aload_n 0, 1) := by decide +kernel
theorem dX9_readRule_127 : decode cX9_readRule 127 = .ok (.getfield 35, 3) := by decide +kernel
theorem dX9_readRule_130 : decode cX9_readRule 130 = .ok (.iload 6, 2) := by decide +kernel
theorem dX9_readRule_132 : decode cX9_readRule 132 = .ok (.iconst 3, 1) := by decide +kernel
theorem dX9_readRule_133 : decode cX9_readRule 133 = .ok (.iadd, 1) := by decide +kernel
theorem dX9_readRule_134 : decode cX9_readRule 134 = .ok (.iload 4, 2) := by decide +kernel
theorem dX9_readRule_136 : decode cX9_readRule 136 = .ok (.iastore, 1) := by decide +kernel
theorem dX9_readRule_137 : decode cX9_readRule 137 = .ok (.aload_n 0, 1) := by decide +kernel
theorem dX9_readRule_138 : decode cX9_readRule 138 = .ok (.getfield 35, 3) := by decide +kernel
theorem dX9_readRule_141 : decode cX9_readRule 141 = .ok (.iload 6, 2) := by decide +kernel
theorem dX9_readRule_143 : decode cX9_readRule 143 = .ok (.iconst 4, 1) := by decide +kernel
theorem dX9_readRule_144 : decode cX9_readRule 144 = .ok (.iadd, 1) := by decide +kernel
theorem dX9_readRule_145 : decode cX9_readRule 145 = .ok (.iload 5, 2) := by decide +kernel
theorem dX9_readRule_147 : decode cX9_readRule 147 = .ok (.iastore, 1) := by decide +kernel
theorem dX9_readRule_148 : decode cX9_readRule 148 = .ok (.aload_n 0, 1) := by decide +kernel
theorem dX9_readRule_149 : decode cX9_readRule 149 = .ok (.dup, 1) := by decide +kernel
theorem dX9_readRule_150 : decode cX9_readRule 150 = .ok (.getfield 123, 3) := by decide +kernel
theorem dX9_readRule_153 : decode cX9_readRule 153 = .ok (.iconst 1, 1) := by decide +kernel
theorem dX9_readRule_154 : decode cX9_readRule 154 = .ok (.iadd, 1) := by decide +kernel
theorem dX9_readRule_155 : decode cX9_readRule 155 = .ok (.putfield 123, 3) := by decide +kernel
theorem dX9_readRule_158 : decode cX9_readRule 158 = .ok (.iconst 1, 1) := by decide +kernel
theorem dX9_readRule_159 : decode cX9_readRule 159 = .ok (.ireturn, 1) := by decide +kernel
theorem dX9_readVersion_0 : decode cX9_readVersion 0 = .ok (.aload_n 0, 1) := by decide +kernel
theorem dX9_readVersion_1 : decode cX9_readVersion 1 = .ok (.iconst 0, 1) := by decide +kernel
theorem dX9_readVersion_2 : decode cX9_readVersion 2 = .ok (.aload_n 0, 1) := by decide +kernel
theorem dX9_readVersion_3 : decode cX9_readVersion 3 = .ok (.getfield 107, 3) := by decide +kernel
theorem dX9_readVersion_6 : decode cX9_readVersion 6 = .ok (.iconst 1, 1) := by decide +kernel
theorem dX9_readVersion_7 : decode cX9_readVersion 7 = .ok (.isub, 1) := by decide +kernel
theorem dX9_readVersion_8 : decode cX9_readVersion 8 = .ok (.bipush (-9), 2) := by decide +kernel
theorem dX9_readVersion_10 : decode cX9_readVersion 10 = .ok (.invokevirtual 103, 3) := by decide +kernel
theorem dX9_readVersion_13 : decode cX9_readVersion 13 = .ok (.istore_n 2, 1) := by decide +kernel
theorem dX9_readVersion_14 : decode cX9_readVersion 14 = .ok (.iload_n 2, 1) := by decide +kernel
theorem dX9_readVersion_15 : decode cX9_readVersion 15 = .ok (.bipush (-9), 2) := by decide +kernel
theorem dX9_readVersion_17 : decode cX9_readVersion 17 = .ok (.if_icmp .ne 8, 3) := by decide +kernel
theorem dX9_readVersion_20 : decode cX9_readVersion 20 = .ok (.bipush (-9), 2) := by decide +kernel
theorem dX9_readVersion_22 : decode cX9_readVersion 22 = .ok (.goto 16, 3) := by decide +kernel
theorem dX9_readVersion_25 : decode cX9_readVersion 25 = .ok (.aload_n 0, 1) := by decide +kernel
theorem dX9_readVersion_26 : decode cX9_readVersion 26 = .ok (.iconst 0, 1) := by decide +kernel
theorem dX9_readVersion_27 : decode cX9_readVersion 27 = .ok (.aload_n 0, 1) := by decide +kernel
theorem dX9_readVersion_28 : decode cX9_readVersion 28 = .ok (.getfield 110, 3) := by decide +kernel
theorem dX9_readVersion_31 : decode cX9_readVersion 31 = .ok (.iconst 1, 1) := by decide +kernel
theorem dX9_readVersion_32 : decode cX9_readVersion 32 = .ok (.isub, 1) := by decide +kernel
theorem dX9_readVersion_33 : decode cX9_readVersion 33 = .ok (.bipush (-9), 2) := by decide +kernel
theorem dX9_readVersion_35 : decode cX9_readVersion 35 = .ok (.invokevirtual 103, 3) := by decide +kernel
theorem dX9_readVersion_38 : decode cX9_readVersion 38 = .ok (.istore_n 3, 1) := by decide +kernel
theorem dX9_readVersion_39 : decode cX9_readVersion 39 = .ok (.iload_n 3, 1) := by decide +kernel
theorem dX9_readVersion_40 : decode cX9_readVersion 40 = .ok (.bipush (-9), 2) := by decide +kernel
theorem dX9_readVersion_42 : decode cX9_readVersion 42 = .ok (.if_icmp .ne 8, 3) := by decide +kernel
theorem dX9_readVersion_45 : decode cX9_readVersion 45 = .ok (.bipush (-9), 2) := by decide +kernel
theorem dX9_readVersion_47 : decode cX9_readVersion 47 = .ok (.goto 11, 3) := by decide +kernel
theorem dX9_readVersion_50 : decode cX9_readVersion 50 = .ok (.aload_n 0, 1) := by decide +kernel
theorem dX9_readVersion_51 : decode cX9_readVersion 51 = .ok (.iconst 0, 1) := by decide +kernel
theorem dX9_readVersion_52 : decode cX9_readVersion 52 = .ok (.iconst 3, 1) := by decide +kernel
theorem dX9_readVersion_53 : decode cX9_readVersion 53 = .ok (.bipush (-9), 2) := by decide +kernel
theorem dX9_readVersion_55 : decode cX9_readVersion 55 = .ok (.invokevirtual 103, 3) := by decide +kernel
theorem dX9_readVersion_58 : decode cX9_readVersion 58 = .ok (.istore 4, 2) := by decide +kernel
theorem dX9_readVersion_60 : decode cX9_readVersion 60 = .ok (.iload 4, 2) := by decide +kernel
theorem dX9_readVersion_62 : decode cX9_readVersion 62 = .ok (.bipush (-9), 2) := by decide +kernel
theorem dX9_readVersion_64 : decode cX9_readVersion 64 = .ok (.if_icmp .ne 5, 3) := by decide +kernel
theorem dX9_readVersion_67 : decode cX9_readVersion 67 = .ok (.iconst 0, 1) := by decide +kernel
theorem dX9_readVersion_68 : decode cX9_readVersion 68 = .ok (.ireturn, 1) := by decide +kernel
theorem dX9_readVersion_69 : decode cX9_readVersion 69 = .ok (.aload_n 0, 1) := by decide +kernel
theorem dX9_readVersion_70 : decode cX9_readVersion 70 = .ok (.getfield 38, 3) := by decide +kernel
theorem dX9_readVersion_73 : decode cX9_readVersion 73 = .ok (.iload_n 2, 1) := by decide +kernel
theorem dX9_readVersion_74 : decode cX9_readVersion 74 = .ok (.invokestatic 126, 3) := by decide +kernel
theorem dX9_readVersion_77 : decode cX9_readVersion 77 = .ok (.iload_n 1, 1) := by decide +kernel
theorem dX9_readVersion_78 : decode cX9_readVersion 78 = .ok (.iadd, 1) := by decide +kernel
theorem dX9_readVersion_79 : decode cX9_readVersion 79 = .ok (.iload_n 3, 1) := by decide +kernel
theorem dX9_readVersion_80 : decode cX9_readVersion 80 = .ok (.iadd, 1) := by decide +kernel
theorem dX9_readVersion_81 : decode cX9_readVersion 81 = .ok (.iload 4, 2) := by decide +kernel
theorem dX9_readVersion_83 : decode cX9_readVersion 83 = .ok (.iastore, 1) := by decide +kernel
theorem dX9_readVersion_84 : decode cX9_readVersion 84 = .ok (.iconst 1, 1) := by decide +kernel
theorem dX9_readVersion_85 : decode cX9_readVersion 85 = .ok (.ireturn, 1) := by decide +kernel
theorem dX9_readItem_0 : decode cX9_readItem 0 = .ok (.aload_n 0, 1) := by decide +kernel
theorem dX9_readItem_1 : decode cX9_readItem 1 = .ok (.getfield 110, 3) := by decide +kernel
theorem dX9_readItem_4 : decode cX9_readItem 4 = .ok (.iconst 1, 1) := by decide +kernel
theorem dX9_readItem_5 : decode cX9_readItem 5 = .ok (.if_icmp .le 16, 3) := by decide +kernel
theorem dX9_readItem_8 : decode cX9_readItem 8 = .ok (.aload_n 0, 1) := by decide +kernel
theorem dX9_readItem_9 : decode cX9_readItem 9 = .ok (.getfield 123, 3) := by decide +kernel
theorem dX9_readItem_12 : decode cX9_readItem 12 = .ok (.bipush 10, 2) := by decide +kernel
theorem dX9_readItem_14 : decode cX9_readItem 14 = .ok (.if_icmp .ge 7, 3) := by decide +kernel
theorem dX9_readItem_17 : decode cX9_readItem 17 = .ok (.iconst 1, 1) := by decide +kernel
theorem dX9_readItem_18 : decode cX9_readItem 18 = .ok (.goto 4, 3) := by decide +kernel
theorem dX9_readItem_21 : decode cX9_readItem 21 = .ok (.iconst 0, 1) := by decide +kernel
theorem dX9_readItem_22 : decode cX9_readItem 22 = .ok (.istore_n 1, 1) := by decide +kernel
theorem dX9_readItem_23 : decode cX9_readItem 23 = .ok (.iload_n 1, 1) := by decide +kernel
theorem dX9_readItem_24 : decode cX9_readItem 24 = .ok (.ifCond .eq 18, 3) := by decide +kernel
theorem dX9_readItem_27 : decode cX9_readItem 27 = .ok (.aload_n 0, 1) := by decide +kernel
theorem dX9_readItem_28 : decode cX9_readItem 28 = .ok (.bipush 110, 2) := by decide +kernel
theorem dX9_readItem_30 : decode cX9_readItem 30 = .ok (.invokevirtual 100, 3) := by decide +kernel
theorem dX9_readItem_33 : decode cX9_readItem 33 = .ok (.ifCond .eq 9, 3) := by decide +kernel
theorem dX9_readItem_36 : decode cX9_readItem 36 = .ok (.aload_n 0, 1) := by decide +kernel
theorem dX9_readItem_37 : decode cX9_readItem 37 = .ok (.iconst 0, 1) := by decide +kernel
theorem dX9_readItem_38 : decode cX9_readItem 38 = .ok (.invokevirtual 129, 3) := by decide +kernel
theorem dX9_readItem_41 : decode cX9_readItem 41 = .ok (.ireturn, 1) := by decide +kernel
theorem dX9_readItem_42 : decode cX9_readItem 42 = .ok (.iload_n 1, 1) := by decide +kernel
theorem dX9_readItem_43 : decode cX9_readItem 43 = .ok (.ifCond .eq 18, 3) := by decide +kernel
theorem dX9_readItem_46 : decode cX9_readItem 46 = .ok (.aload_n 0, 1) := by decide +kernel
theorem dX9_readItem_47 : decode cX9_readItem 47 = .ok (.bipush 120, 2) := by decide +kernel
theorem dX9_readItem_49 : decode cX9_readItem 49 = .ok (.invokevirtual 100, 3) := by decide +kernel
theorem dX9_readItem_52 : decode cX9_readItem 52 = .ok (.ifCond .eq 9, 3) := by decide +kernel
theorem dX9_readItem_55 : decode cX9_readItem 55 = .ok (.aload_n 0, 1) := by decide +kernel
theorem dX9_readItem_56 : decode cX9_readItem 56 = .ok (.iconst 1, 1) := by decide +kernel
theorem dX9_readItem_57 : decode cX9_readItem 57 = .ok (.invokevirtual 129, 3) := by decide +kernel
theorem dX9_readItem_60 : decode cX9_readItem 60 = .ok (.ireturn, 1) := by decide +kernel
theorem dX9_readItem_61 : decode cX9_readItem 61 = .ok (.aload_n 0, 1) := by decide +kernel
theorem dX9_readItem_62 : decode cX9_readItem 62 = .ok (.bipush 119, 2) := by decide +kernel
theorem dX9_readItem_64 : decode cX9_readItem 64 = .ok (.invokevirtual 100, 3) := by decide +kernel
theorem dX9_readItem_67 : decode cX9_readItem 67 = .ok (.ifCond .eq 10, 3) := by decide +kernel
theorem dX9_readItem_70 : decode cX9_readItem 70 = .ok (.aload_n 0, 1) := by decide +kernel
theorem dX9_readItem_71 : decode cX9_readItem 71 = .ok (.bipush 6, 2) := by decide +kernel
theorem dX9_readItem_73 : decode cX9_readItem 73 = .ok (.invokevirtual 132, 3) := by decide +kernel
theorem dX9_readItem_76 : decode cX9_readItem 76 = .ok (.ireturn, 1) := by decide +kernel
theorem dX9_readItem_77 : decode cX9_readItem 77 = .ok (.aload_n 0, 1) := by decide +kernel
theorem dX9_readItem_78 : decode cX9_readItem 78 = .ok (.bipush 118, 2) := by decide +kernel
theorem dX9_readItem_80 : decode cX9_readItem 80 = .ok (.invokevirtual 100, 3) := by decide +kernel
theorem dX9_readItem_83 : decode cX9_readItem 83 = .ok (.ifCond .eq 15, 3) := by decide +kernel
theorem dX9_readItem_86 : decode cX9_readItem 86 = .ok (.aload_n 0, 1) := by decide +kernel
theorem dX9_readItem_87 : decode cX9_readItem 87 = .ok (.iconst 0, 1) := by decide +kernel
theorem dX9_readItem_88 : decode cX9_readItem 88 = .ok (.invokevirtual 132, 3) := by decide +kernel
theorem dX9_readItem_91 : decode cX9_readItem 91 = .ok (.ifCond .eq 7, 3) := by decide +kernel
theorem dX9_readItem_94 : decode cX9_readItem 94 = .ok (.iconst 1, 1) := by decide +kernel
theorem dX9_readItem_95 : decode cX9_readItem 95 = .ok (.goto 4, 3) := by decide +kernel
theorem dX9_readItem_98 : decode cX9_readItem 98 = .ok (.iconst 0, 1) := by decide +kernel
theorem dX9_readItem_99 : decode cX9_readItem 99 = .ok (.ireturn, 1) := by decide +kernel
theorem dX9_readText_0 : decode cX9_readText 0 = .ok (.aload_n 0, 1) := by decide +kernel
theorem dX9_readText_1 : decode cX9_readText 1 = .ok (.iconst 0, 1) := by decide +kernel
theorem dX9_readText_2 : decode cX9_readText 2 = .ok (.putfield 97, 3) := by decide +kernel
theorem dX9_readText_5 : decode cX9_readText 5 = .ok (.aload_n 0, 1) := by decide +kernel
theorem dX9_readText_6 : decode cX9_readText 6 = .ok (.iconst 0, 1) := by decide +kernel
theorem dX9_readText_7 : decode cX9_readText 7 = .ok (.putfield 123, 3) := by decide +kernel
theorem dX9_readText_10 : decode cX9_readText 10 = .ok (.iconst 0, 1) := by decide +kernel
theorem dX9_readText_11 : decode cX9_readText 11 = .ok (.istore_n 1, 1) := by decide +kernel
theorem dX9_readText_12 : decode cX9_readText 12 = .ok (.iload_n 1, 1) := by decide +kernel
theorem dX9_readText_13 : decode cX9_readText 13 = .ok (.bipush 107, 2) := by decide +kernel
theorem dX9_readText_15 : decode cX9_readText 15 = .ok (.if_icmp .ge 16, 3) := by decide +kernel
theorem dX9_readText_18 : decode cX9_readText 18 = .ok (.aload_n 0, 1) := by decide +kernel
theorem dX9_readText_19 : decode cX9_readText 19 = .ok (.getfield 38, 3) := by decide +kernel
theorem dX9_readText_22 : decode cX9_readText 22 = .ok (.iload_n 1, 1) := by decide +kernel
theorem dX9_readText_23 : decode cX9_readText 23 = .ok (.iconst 0, 1) := by decide +kernel
theorem dX9_readText_24 : decode cX9_readText 24 = .ok (.iastore, 1) := by decide +kernel
theorem dX9_readText_25 : decode cX9_readText 25 = .ok (.iinc 1 1, 3) := by decide +kernel
theorem dX9_readText_28 : decode cX9_readText 28 = .ok (.goto (-16), 3) := by decide +kernel
theorem dX9_readText_31 : decode cX9_readText 31 = .ok (.aload_n 0, 1) := by decide +kernel
theorem dX9_readText_32 : decode cX9_readText 32 = .ok (.invokevirtual 135, 3) := by decide +kernel
theorem dX9_readText_35 : decode cX9_readText 35 = .ok (.ifCond .ne 8, 3) := by decide +kernel
theorem dX9_readText_38 : decode cX9_readText 38 = .ok (.aload_n 0, 1) := by decide +kernel
theorem dX9_readText_39 : decode cX9_readText 39 = .ok (.getfield 97, 3) := by decide +kernel
theorem dX9_readText_42 : decode cX9_readText 42 = .ok (.ireturn, 1) := by decide +kernel
theorem dX9_readText_43 : decode cX9_readText 43 = .ok (.aload_n 0, 1) := by decide +kernel
theorem dX9_readText_44 : decode cX9_readText 44 = .ok (.getfield 97, 3) := by decide +kernel
theorem dX9_readText_47 : decode cX9_readText 47 = .ok (.aload_n 0, 1) := by decide +kernel
theorem dX9_readText_48 : decode cX9_readText 48 = .ok (.getfield 90, 3) := by decide +kernel
theorem dX9_readText_51 : decode cX9_readText 51 = .ok (.if_icmp .ge 15, 3) := by decide +kernel
theorem dX9_readText_54 : decode cX9_readText 54 = .ok (.aload_n 0, 1) := by decide +kernel
theorem dX9_readText_55 : decode cX9_readText 55 = .ok (.invokevirtual 139, 3) := by decide +kernel
theorem dX9_readText_58 : decode cX9_readText 58 = .ok (.ifCond .ne (-15), 3) := by decide +kernel
theorem dX9_readText_61 : decode cX9_readText 61 = .ok (.aload_n 0, 1) := by decide +kernel
theorem dX9_readText_62 : decode cX9_readText 62 = .ok (.getfield 97, 3) := by decide +kernel
theorem dX9_readText_65 : decode cX9_readText 65 = .ok (.ireturn, 1) := by decide +kernel
theorem dX9_readText_66 : decode cX9_readText 66 = .ok (.bipush (-9), 2) := by decide +kernel
theorem dX9_readText_68 : decode cX9_readText 68 = .ok (.ireturn, 1) := by decide +kernel
theorem dX9_errorPosition_0 : decode cX9_errorPosition 0 = .ok (.aload_n 0, 1) := by decide +kernel
theorem dX9_errorPosition_1 : decode cX9_errorPosition 1 = .ok (.iconst 0, 1) := by decide +kernel
theorem dX9_errorPosition_2 : decode cX9_errorPosition 2 = .ok (.putfield 69, 3) := by decide +kernel
theorem dX9_errorPosition_5 : decode cX9_errorPosition 5 = .ok (.aload_n 0, 1) := by decide +kernel
theorem dX9_errorPosition_6 : decode cX9_errorPosition 6 = .ok (.invokevirtual 142, 3) := by decide +kernel
theorem dX9_errorPosition_9 : decode cX9_errorPosition 9 = .ok (.ireturn, 1) := by decide +kernel
theorem dX9_load_0 : decode cX9_load 0 = .ok (.aload_n 0, 1) := by decide +kernel
theorem dX9_load_1 : decode cX9_load 1 = .ok (.aload_n 0, 1) := by decide +kernel
theorem dX9_load_2 : decode cX9_load 2 = .ok (.invokevirtual 142, 3) := by decide +kernel
theorem dX9_load_5 : decode cX9_load 5 = .ok (.bipush (-9), 2) := by decide +kernel
theorem dX9_load_7 : decode cX9_load 7 = .ok (.if_icmp .ne 7, 3) := by decide +kernel
theorem dX9_load_10 : decode cX9_load 10 = .ok (.iconst 0, 1) := by decide +kernel
theorem dX9_load_11 : decode cX9_load 11 = .ok (.goto 4, 3) := by decide +kernel
theorem dX9_load_14 : decode cX9_load 14 = .ok (.iconst 1, 1) := by decide +kernel
theorem dX9_load_15 : decode cX9_load 15 = .ok (.invokevirtual 93, 3) := by decide +kernel
theorem dX9_load_18 : decode cX9_load 18 = .ok (.ifCond .eq 5, 3) := by decide +kernel
theorem dX9_load_21 : decode cX9_load 21 = .ok (.iconst 0, 1) := by decide +kernel
theorem dX9_load_22 : decode cX9_load 22 = .ok (.ireturn, 1) := by decide +kernel
theorem dX9_load_23 : decode cX9_load 23 = .ok (.aload_n 0, 1) := by decide +kernel
theorem dX9_load_24 : decode cX9_load 24 = .ok (.aload_n 0, 1) := by decide +kernel
theorem dX9_load_25 : decode cX9_load 25 = .ok (.getfield 107, 3) := by decide +kernel
theorem dX9_load_28 : decode cX9_load 28 = .ok (.putfield 13, 3) := by decide +kernel
theorem dX9_load_31 : decode cX9_load 31 = .ok (.aload_n 0, 1) := by decide +kernel
theorem dX9_load_32 : decode cX9_load 32 = .ok (.aload_n 0, 1) := by decide +kernel
theorem dX9_load_33 : decode cX9_load 33 = .ok (.getfield 110, 3) := by decide +kernel
theorem dX9_load_36 : decode cX9_load 36 = .ok (.putfield 17, 3) := by decide +kernel
theorem dX9_load_39 : decode cX9_load 39 = .ok (.aload_n 0, 1) := by decide +kernel
theorem dX9_load_40 : decode cX9_load 40 = .ok (.aload_n 0, 1) := by decide +kernel
theorem dX9_load_41 : decode cX9_load 41 = .ok (.getfield 123, 3) := by decide +kernel
theorem dX9_load_44 : decode cX9_load 44 = .ok (.putfield 146, 3) := by decide +kernel
theorem dX9_load_47 : decode cX9_load 47 = .ok (.aload_n 0, 1) := by decide +kernel
theorem dX9_load_48 : decode cX9_load 48 = .ok (.aload_n 0, 1) := by decide +kernel
theorem dX9_load_49 : decode cX9_load 49 = .ok (.getfield 113, 3) := by decide +kernel
theorem dX9_load_52 : decode cX9_load 52 = .ok (.putfield 20, 3) := by decide +kernel
theorem dX9_load_55 : decode cX9_load 55 = .ok (.aload_n 0, 1) := by decide +kernel
theorem dX9_load_56 : decode cX9_load 56 = .ok (.aload_n 0, 1) := by decide +kernel
theorem dX9_load_57 : decode cX9_load 57 = .ok (.getfield 116, 3) := by decide +kernel
theorem dX9_load_60 : decode cX9_load 60 = .ok (.putfield 23, 3) := by decide +kernel
theorem dX9_load_63 : decode cX9_load 63 = .ok (.aload_n 0, 1) := by decide +kernel
theorem dX9_load_64 : decode cX9_load 64 = .ok (.getfield 32, 3) := by decide +kernel
theorem dX9_load_67 : decode cX9_load 67 = .ok (.iconst 0, 1) := by decide +kernel
theorem dX9_load_68 : decode cX9_load 68 = .ok (.aload_n 0, 1) := by decide +kernel
theorem dX9_load_69 : decode cX9_load 69 = .ok (.getfield 26, 3) := by decide +kernel
theorem dX9_load_72 : decode cX9_load 72 = .ok (.iconst 0, 1) := by decide +kernel
theorem dX9_load_73 : decode cX9_load 73 = .ok (.iconst 5, 1) := by decide +kernel
theorem dX9_load_74 : decode cX9_load 74 = .ok (.invokestatic 75, 3) := by decide +kernel
theorem dX9_load_77 : decode cX9_load 77 = .ok (.aload_n 0, 1) := by decide +kernel
theorem dX9_load_78 : decode cX9_load 78 = .ok (.getfield 35, 3) := by decide +kernel
theorem dX9_load_81 : decode cX9_load 81 = .ok (.iconst 0, 1) := by decide +kernel
theorem dX9_load_82 : decode cX9_load 82 = .ok (.aload_n 0, 1) := by decide +kernel
theorem dX9_load_83 : decode cX9_load 83 = .ok (.getfield 29, 3) := by decide +kernel
theorem dX9_load_86 : decode cX9_load 86 = .ok (.iconst 0, 1) := by decide +kernel
theorem dX9_load_87 : decode cX9_load 87 = .ok (.bipush 50, 2) := by decide +kernel
theorem dX9_load_89 : decode cX9_load 89 = .ok (.invokestatic 75, 3) := by decide +kernel
theorem dX9_load_92 : decode cX9_load 92 = .ok (.aload_n 0, 1) := by decide +kernel
theorem dX9_load_93 : decode cX9_load 93 = .ok (.getfield 38, 3) := by decide +kernel
theorem dX9_load_96 : decode cX9_load 96 = .ok (.iconst 0, 1) := by decide +kernel
theorem dX9_load_97 : decode cX9_load 97 = .ok (.aload_n 0, 1) := by decide +kernel
theorem dX9_load_98 : decode cX9_load 98 = .ok (.getfield 41, 3) := by decide +kernel
theorem dX9_load_101 : decode cX9_load 101 = .ok (.iconst 0, 1) := by decide +kernel
theorem dX9_load_102 : decode cX9_load 102 = .ok (.bipush 107, 2) := by decide +kernel
theorem dX9_load_104 : decode cX9_load 104 = .ok (.invokestatic 75, 3) := by decide +kernel
theorem dX9_load_107 : decode cX9_load 107 = .ok (.aload_n 0, 1) := by decide +kernel
theorem dX9_load_108 : decode cX9_load 108 = .ok (.iconst 0, 1) := by decide +kernel
theorem dX9_load_109 : decode cX9_load 109 = .ok (.putfield 72, 3) := by decide +kernel
theorem dX9_load_112 : decode cX9_load 112 = .ok (.aload_n 0, 1) := by decide +kernel
theorem dX9_load_113 : decode cX9_load 113 = .ok (.getfield 53, 3) := by decide +kernel
theorem dX9_load_116 : decode cX9_load 116 = .ok (.iconst 0, 1) := by decide +kernel
theorem dX9_load_117 : decode cX9_load 117 = .ok (.iconst 0, 1) := by decide +kernel
theorem dX9_load_118 : decode cX9_load 118 = .ok (.bastore, 1) := by decide +kernel
theorem dX9_load_119 : decode cX9_load 119 = .ok (.aload_n 0, 1) := by decide +kernel
theorem dX9_load_120 : decode cX9_load 120 = .ok (.getfield 53, 3) := by decide +kernel
theorem dX9_load_123 : decode cX9_load 123 = .ok (.iconst 1, 1) := by decide +kernel
theorem dX9_load_124 : decode cX9_load 124 = .ok (.iconst 0, 1) := by decide +kernel
theorem dX9_load_125 : decode cX9_load 125 = .ok (.bastore, 1) := by decide +kernel
theorem dX9_load_126 : decode cX9_load 126 = .ok (.aload_n 0, 1) := by decide +kernel
theorem dX9_load_127 : decode cX9_load 127 = .ok (.getfield 146, 3) := by decide +kernel
theorem dX9_load_130 : decode cX9_load 130 = .ok (.ireturn, 1) := by decide +kernel
theorem dX9_versionOf_0 : decode cX9_versionOf 0 = .ok (.iload_n 0, 1) := by decide +kernel
theorem dX9_versionOf_1 : decode cX9_versionOf 1 = .ok (.iconst 2, 1) := by decide +kernel
theorem dX9_versionOf_2 : decode cX9_versionOf 2 = .ok (.iload_n 1, 1) := by decide +kernel
theorem dX9_versionOf_3 : decode cX9_versionOf 3 = .ok (.imul, 1) := by decide +kernel
theorem dX9_versionOf_4 : decode cX9_versionOf 4 = .ok (.ishr, 1) := by decide +kernel
theorem dX9_versionOf_5 : decode cX9_versionOf 5 = .ok (.iconst 3, 1) := by decide +kernel
theorem dX9_versionOf_6 : decode cX9_versionOf 6 = .ok (.iand, 1) := by decide +kernel
theorem dX9_versionOf_7 : decode cX9_versionOf 7 = .ok (.ireturn, 1) := by decide +kernel
theorem dX9_with_0 : decode cX9_with 0 = .ok (.iload_n 0, 1) := by decide +kernel
theorem dX9_with_1 : decode cX9_with 1 = .ok (.iconst 3, 1) := by decide +kernel
theorem dX9_with_2 : decode cX9_with 2 = .ok (.iconst 2, 1) := by decide +kernel
theorem dX9_with_3 : decode cX9_with 3 = .ok (.iload_n 1, 1) := by decide +kernel
theorem dX9_with_4 : decode cX9_with 4 = .ok (.imul, 1) := by decide +kernel
theorem dX9_with_5 : decode cX9_with 5 = .ok (.ishl, 1) := by decide +kernel
theorem dX9_with_6 : decode cX9_with 6 = .ok (.iconst (-1), 1) := by decide +kernel
theorem dX9_with_7 : decode cX9_with 7 = .ok (.ixor, 1) := by decide +kernel
theorem dX9_with_8 : decode cX9_with 8 = .ok (.iand, 1) := by decide +kernel
theorem dX9_with_9 : decode cX9_with 9 = .ok (.iload_n 2, 1) := by decide +kernel
theorem dX9_with_10 : decode cX9_with 10 = .ok (.iconst 2, 1) := by decide +kernel
theorem dX9_with_11 : decode cX9_with 11 = .ok (.iload_n 1, 1) := by decide +kernel
theorem dX9_with_12 : decode cX9_with 12 = .ok (.imul, 1) := by decide +kernel
theorem dX9_with_13 : decode cX9_with 13 = .ok (.ishl, 1) := by decide +kernel
theorem dX9_with_14 : decode cX9_with 14 = .ok (.ior, 1) := by decide +kernel
theorem dX9_with_15 : decode cX9_with 15 = .ok (.ireturn, 1) := by decide +kernel
theorem dX9_codeOf_0 : decode cX9_codeOf 0 = .ok (.iconst 0, 1) := by decide +kernel
theorem dX9_codeOf_1 : decode cX9_codeOf 1 = .ok (.istore 4, 2) := by decide +kernel
theorem dX9_codeOf_3 : decode cX9_codeOf 3 = .ok (.iconst 0, 1) := by decide +kernel
theorem dX9_codeOf_4 : decode cX9_codeOf 4 = .ok (.istore 5, 2) := by decide +kernel
theorem dX9_codeOf_6 : decode cX9_codeOf 6 = .ok (.iload 5, 2) := by decide +kernel
theorem dX9_codeOf_8 : decode cX9_codeOf 8 = .ok (.aload_n 0, 1) := by decide +kernel
theorem dX9_codeOf_9 : decode cX9_codeOf 9 = .ok (.getfield 17, 3) := by decide +kernel
theorem dX9_codeOf_12 : decode cX9_codeOf 12 = .ok (.if_icmp .ge 30, 3) := by decide +kernel
theorem dX9_codeOf_15 : decode cX9_codeOf 15 = .ok (.iload 4, 2) := by decide +kernel
theorem dX9_codeOf_17 : decode cX9_codeOf 17 = .ok (.aload_n 1, 1) := by decide +kernel
theorem dX9_codeOf_18 : decode cX9_codeOf 18 = .ok (.iload_n 2, 1) := by decide +kernel
theorem dX9_codeOf_19 : decode cX9_codeOf 19 = .ok (.invokestatic 126, 3) := by decide +kernel
theorem dX9_codeOf_22 : decode cX9_codeOf 22 = .ok (.iload_n 3, 1) := by decide +kernel
theorem dX9_codeOf_23 : decode cX9_codeOf 23 = .ok (.iadd, 1) := by decide +kernel
theorem dX9_codeOf_24 : decode cX9_codeOf 24 = .ok (.iload 5, 2) := by decide +kernel
theorem dX9_codeOf_26 : decode cX9_codeOf 26 = .ok (.iadd, 1) := by decide +kernel
theorem dX9_codeOf_27 : decode cX9_codeOf 27 = .ok (.iaload, 1) := by decide +kernel
theorem dX9_codeOf_28 : decode cX9_codeOf 28 = .ok (.iconst 2, 1) := by decide +kernel
theorem dX9_codeOf_29 : decode cX9_codeOf 29 = .ok (.iload 5, 2) := by decide +kernel
theorem dX9_codeOf_31 : decode cX9_codeOf 31 = .ok (.imul, 1) := by decide +kernel
theorem dX9_codeOf_32 : decode cX9_codeOf 32 = .ok (.ishl, 1) := by decide +kernel
theorem dX9_codeOf_33 : decode cX9_codeOf 33 = .ok (.ior, 1) := by decide +kernel
theorem dX9_codeOf_34 : decode cX9_codeOf 34 = .ok (.istore 4, 2) := by decide +kernel
theorem dX9_codeOf_36 : decode cX9_codeOf 36 = .ok (.iinc 5 1, 3) := by decide +kernel
theorem dX9_codeOf_39 : decode cX9_codeOf 39 = .ok (.goto (-33), 3) := by decide +kernel
theorem dX9_codeOf_42 : decode cX9_codeOf 42 = .ok (.iload 4, 2) := by decide +kernel
theorem dX9_codeOf_44 : decode cX9_codeOf 44 = .ok (.ireturn, 1) := by decide +kernel
theorem dX9_broken_0 : decode cX9_broken 0 = .ok (.iconst 0, 1) := by decide +kernel
theorem dX9_broken_1 : decode cX9_broken 1 = .ok (.istore_n 2, 1) := by decide +kernel
theorem dX9_broken_2 : decode cX9_broken 2 = .ok (.iconst 0, 1) := by decide +kernel
theorem dX9_broken_3 : decode cX9_broken 3 = .ok (.istore_n 3, 1) := by decide +kernel
theorem dX9_broken_4 : decode cX9_broken 4 = .ok (.iload_n 3, 1) := by decide +kernel
theorem dX9_broken_5 : decode cX9_broken 5 = .ok (.aload_n 0, 1) := by decide +kernel
theorem dX9_broken_6 : decode cX9_broken 6 = .ok (.getfield 146, 3) := by decide +kernel
theorem dX9_broken_9 : decode cX9_broken 9 = .ok (.if_icmp .ge 114, 3) := by decide +kernel
theorem dX9_broken_12 : decode cX9_broken 12 = .ok (.iconst 5, 1) := by decide +kernel
theorem dX9_broken_13 : decode cX9_broken 13 = .ok (.iload_n 3, 1) := by decide +kernel
theorem dX9_broken_14 : decode cX9_broken 14 = .ok (.imul, 1) := by decide +kernel
theorem dX9_broken_15 : decode cX9_broken 15 = .ok (.istore 4, 2) := by decide +kernel
theorem dX9_broken_17 : decode cX9_broken 17 = .ok (.iload_n 1, 1) := by decide +kernel
theorem dX9_broken_18 : decode cX9_broken 18 = .ok (.aload_n 0, 1) := by decide +kernel
theorem dX9_broken_19 : decode cX9_broken 19 = .ok (.getfield 29, 3) := by decide +kernel
theorem dX9_broken_22 : decode cX9_broken 22 = .ok (.iload 4, 2) := by decide +kernel
theorem dX9_broken_24 : decode cX9_broken 24 = .ok (.iconst 1, 1) := by decide +kernel
theorem dX9_broken_25 : decode cX9_broken 25 = .ok (.iadd, 1) := by decide +kernel
theorem dX9_broken_26 : decode cX9_broken 26 = .ok (.iaload, 1) := by decide +kernel
theorem dX9_broken_27 : decode cX9_broken 27 = .ok (.invokestatic 149, 3) := by decide +kernel
theorem dX9_broken_30 : decode cX9_broken 30 = .ok (.aload_n 0, 1) := by decide +kernel
theorem dX9_broken_31 : decode cX9_broken 31 = .ok (.getfield 29, 3) := by decide +kernel
theorem dX9_broken_34 : decode cX9_broken 34 = .ok (.iload 4, 2) := by decide +kernel
theorem dX9_broken_36 : decode cX9_broken 36 = .ok (.iconst 2, 1) := by decide +kernel
theorem dX9_broken_37 : decode cX9_broken 37 = .ok (.iadd, 1) := by decide +kernel
theorem dX9_broken_38 : decode cX9_broken 38 = .ok (.iaload, 1) := by decide +kernel
theorem dX9_broken_39 : decode cX9_broken 39 = .ok (.if_icmp .lt 7, 3) := by decide +kernel
theorem dX9_broken_42 : decode cX9_broken 42 = .ok (.iconst 1, 1) := by decide +kernel
theorem dX9_broken_43 : decode cX9_broken 43 = .ok (.goto 4, 3) := by decide +kernel
theorem dX9_broken_46 : decode cX9_broken 46 = .ok (.iconst 0, 1) := by decide +kernel
theorem dX9_broken_47 : decode cX9_broken 47 = .ok (.istore 5, 2) := by decide +kernel
theorem dX9_broken_49 : decode cX9_broken 49 = .ok (.iload_n 1, 1) := by decide +kernel
theorem dX9_broken_50 : decode cX9_broken 50 = .ok (.aload_n 0, 1) := by decide +kernel
theorem dX9_broken_51 : decode cX9_broken 51 = .ok (.getfield 29, 3) := by decide +kernel
theorem dX9_broken_54 : decode cX9_broken 54 = .ok (.iload 4, 2) := by decide +kernel
theorem dX9_broken_56 : decode cX9_broken 56 = .ok (.iconst 3, 1) := by decide +kernel
theorem dX9_broken_57 : decode cX9_broken 57 = .ok (.iadd, 1) := by decide +kernel
theorem dX9_broken_58 : decode cX9_broken 58 = .ok (.iaload, 1) := by decide +kernel
theorem dX9_broken_59 : decode cX9_broken 59 = .ok (.invokestatic 149, 3) := by decide +kernel
theorem dX9_broken_62 : decode cX9_broken 62 = .ok (.aload_n 0, 1) := by decide +kernel
theorem dX9_broken_63 : decode cX9_broken 63 = .ok (.getfield 29, 3) := by decide +kernel
theorem dX9_broken_66 : decode cX9_broken 66 = .ok (.iload 4, 2) := by decide +kernel
theorem dX9_broken_68 : decode cX9_broken 68 = .ok (.iconst 4, 1) := by decide +kernel
theorem dX9_broken_69 : decode cX9_broken 69 = .ok (.iadd, 1) := by decide +kernel
theorem dX9_broken_70 : decode cX9_broken 70 = .ok (.iaload, 1) := by decide +kernel
theorem dX9_broken_71 : decode cX9_broken 71 = .ok (.if_icmp .lt 7, 3) := by decide +kernel
theorem dX9_broken_74 : decode cX9_broken 74 = .ok (.iconst 1, 1) := by decide +kernel
theorem dX9_broken_75 : decode cX9_broken 75 = .ok (.goto 4, 3) := by decide +kernel
theorem dX9_broken_78 : decode cX9_broken 78 = .ok (.iconst 0, 1) := by decide +kernel
theorem dX9_broken_79 : decode cX9_broken 79 = .ok (.istore 6, 2) := by decide +kernel
theorem dX9_broken_81 : decode cX9_broken 81 = .ok (.iload_n 2, 1) := by decide +kernel
theorem dX9_broken_82 : decode cX9_broken 82 = .ok (.iload 5, 2) := by decide +kernel
theorem dX9_broken_84 : decode cX9_broken 84 = .ok (.ifCond .eq 30, 3) := by decide +kernel
theorem dX9_broken_87 : decode cX9_broken 87 = .ok (.iload 6, 2) := by decide +kernel
theorem dX9_broken_89 : decode cX9_broken 89 = .ok (.aload_n 0, 1) := by decide +kernel
theorem dX9_broken_90 : decode cX9_broken 90 = .ok (.getfield 29, 3) := by decide +kernel
theorem dX9_broken_93 : decode cX9_broken 93 = .ok (.iload 4, 2) := by decide +kernel
theorem dX9_broken_95 : decode cX9_broken 95 = .ok (.iaload, 1) := by decide +kernel
theorem dX9_broken_96 : decode cX9_broken 96 = .ok (.iconst 1, 1) := by decide +kernel
theorem dX9_broken_97 : decode cX9_broken 97 = .ok (.if_icmp .ne 7, 3) := by decide +kernel
theorem dX9_broken_100 : decode cX9_broken 100 = .ok (.iconst 1, 1) := by decide +kernel
theorem dX9_broken_101 : decode cX9_broken 101 = .ok (.goto 4, 3) := by decide +kernel
theorem dX9_broken_104 : decode cX9_broken 104 = .ok (.iconst 0, 1) := by decide +kernel
theorem dX9_broken_105 : decode cX9_broken 105 = .ok (.if_icmp .ne 9, 3) := by decide +kernel
theorem dX9_broken_108 : decode cX9_broken 108 = .ok (.iconst 1, 1) := by decide +kernel
theorem dX9_broken_109 : decode cX9_broken 109 = .ok (.iload_n 3, 1) := by decide +kernel
theorem dX9_broken_110 : decode cX9_broken 110 = .ok (.ishl, 1) := by decide +kernel
theorem dX9_broken_111 : decode cX9_broken 111 = .ok (.goto 4, 3) := by decide +kernel
theorem dX9_broken_114 : decode cX9_broken 114 = .ok (.iconst 0, 1) := by decide +kernel
theorem dX9_broken_115 : decode cX9_broken 115 = .ok (.ior, 1) := by decide +kernel
theorem dX9_broken_116 : decode cX9_broken 116 = .ok (.istore_n 2, 1) := by decide +kernel
theorem dX9_broken_117 : decode cX9_broken 117 = .ok (.iinc 3 1, 3) := by decide +kernel
theorem dX9_broken_120 : decode cX9_broken 120 = .ok (.goto (-116), 3) := by decide +kernel
theorem dX9_broken_123 : decode cX9_broken 123 = .ok (.iload_n 2, 1) := by decide +kernel
theorem dX9_broken_124 : decode cX9_broken 124 = .ok (.ireturn, 1) := by decide +kernel
theorem dX9_newlyBroken_0 : decode cX9_newlyBroken 0 = .ok (.aload_n 0, 1) := by decide +kernel
theorem dX9_newlyBroken_1 : decode cX9_newlyBroken 1 = .ok (.aload_n 1, 1) := by decide +kernel
theorem dX9_newlyBroken_2 : decode cX9_newlyBroken 2 = .ok (.iload_n 2, 1) := by decide +kernel
theorem dX9_newlyBroken_3 : decode cX9_newlyBroken 3 = .ok (.iconst 0, 1) := by decide +kernel
theorem dX9_newlyBroken_4 : decode cX9_newlyBroken 4 = .ok (.invokevirtual 153, 3) := by decide +kernel
theorem dX9_newlyBroken_7 : decode cX9_newlyBroken 7 = .ok (.istore 5, 2) := by decide +kernel
theorem dX9_newlyBroken_9 : decode cX9_newlyBroken 9 = .ok (.aload_n 0, 1) := by decide +kernel
theorem dX9_newlyBroken_10 : decode cX9_newlyBroken 10 = .ok (.iload 5, 2) := by decide +kernel
theorem dX9_newlyBroken_12 : decode cX9_newlyBroken 12 = .ok (.iload_n 3, 1) := by decide +kernel
theorem dX9_newlyBroken_13 : decode cX9_newlyBroken 13 = .ok (.iload 4, 2) := by decide +kernel
theorem dX9_newlyBroken_15 : decode cX9_newlyBroken 15 = .ok (.invokestatic 157, 3) := by decide +kernel
theorem dX9_newlyBroken_18 : decode cX9_newlyBroken 18 = .ok (.invokevirtual 160, 3) := by decide +kernel
theorem dX9_newlyBroken_21 : decode cX9_newlyBroken 21 = .ok (.aload_n 0, 1) := by decide +kernel
theorem dX9_newlyBroken_22 : decode cX9_newlyBroken 22 = .ok (.iload 5, 2) := by decide +kernel
theorem dX9_newlyBroken_24 : decode cX9_newlyBroken 24 = .ok (.invokevirtual 160, 3) := by decide +kernel
theorem dX9_newlyBroken_27 : decode cX9_newlyBroken 27 = .ok (.iconst (-1), 1) := by decide +kernel
theorem dX9_newlyBroken_28 : decode cX9_newlyBroken 28 = .ok (.ixor, 1) := by decide +kernel
theorem dX9_newlyBroken_29 : decode cX9_newlyBroken 29 = .ok (.iand, 1) := by decide +kernel
theorem dX9_newlyBroken_30 : decode cX9_newlyBroken 30 = .ok (.ireturn, 1) := by decide +kernel
theorem dX9_isDrifted_0 : decode cX9_isDrifted 0 = .ok (.aload_n 1, 1) := by decide +kernel
theorem dX9_isDrifted_1 : decode cX9_isDrifted 1 = .ok (.iload_n 2, 1) := by decide +kernel
theorem dX9_isDrifted_2 : decode cX9_isDrifted 2 = .ok (.invokestatic 126, 3) := by decide +kernel
theorem dX9_isDrifted_5 : decode cX9_isDrifted 5 = .ok (.iload_n 3, 1) := by decide +kernel
theorem dX9_isDrifted_6 : decode cX9_isDrifted 6 = .ok (.iadd, 1) := by decide +kernel
theorem dX9_isDrifted_7 : decode cX9_isDrifted 7 = .ok (.iaload, 1) := by decide +kernel
theorem dX9_isDrifted_8 : decode cX9_isDrifted 8 = .ok (.aload_n 1, 1) := by decide +kernel
theorem dX9_isDrifted_9 : decode cX9_isDrifted 9 = .ok (.iload_n 2, 1) := by decide +kernel
theorem dX9_isDrifted_10 : decode cX9_isDrifted 10 = .ok (.invokestatic 126, 3) := by decide +kernel
theorem dX9_isDrifted_13 : decode cX9_isDrifted 13 = .ok (.bipush 6, 2) := by decide +kernel
theorem dX9_isDrifted_15 : decode cX9_isDrifted 15 = .ok (.iadd, 1) := by decide +kernel
theorem dX9_isDrifted_16 : decode cX9_isDrifted 16 = .ok (.iload_n 3, 1) := by decide +kernel
theorem dX9_isDrifted_17 : decode cX9_isDrifted 17 = .ok (.iadd, 1) := by decide +kernel
theorem dX9_isDrifted_18 : decode cX9_isDrifted 18 = .ok (.iaload, 1) := by decide +kernel
theorem dX9_isDrifted_19 : decode cX9_isDrifted 19 = .ok (.if_icmp .eq 7, 3) := by decide +kernel
theorem dX9_isDrifted_22 : decode cX9_isDrifted 22 = .ok (.iconst 1, 1) := by decide +kernel
theorem dX9_isDrifted_23 : decode cX9_isDrifted 23 = .ok (.goto 4, 3) := by decide +kernel
theorem dX9_isDrifted_26 : decode cX9_isDrifted 26 = .ok (.iconst 0, 1) := by decide +kernel
theorem dX9_isDrifted_27 : decode cX9_isDrifted 27 = .ok (.ireturn, 1) := by decide +kernel
theorem dX9_drifted_0 : decode cX9_drifted 0 = .ok (.iconst 0, 1) := by decide +kernel
theorem dX9_drifted_1 : decode cX9_drifted 1 = .ok (.istore_n 3, 1) := by decide +kernel
theorem dX9_drifted_2 : decode cX9_drifted 2 = .ok (.iconst 0, 1) := by decide +kernel
theorem dX9_drifted_3 : decode cX9_drifted 3 = .ok (.istore 4, 2) := by decide +kernel
theorem dX9_drifted_5 : decode cX9_drifted 5 = .ok (.iload 4, 2) := by decide +kernel
theorem dX9_drifted_7 : decode cX9_drifted 7 = .ok (.aload_n 0, 1) := by decide +kernel
theorem dX9_drifted_8 : decode cX9_drifted 8 = .ok (.getfield 17, 3) := by decide +kernel
theorem dX9_drifted_11 : decode cX9_drifted 11 = .ok (.if_icmp .ge 31, 3) := by decide +kernel
theorem dX9_drifted_14 : decode cX9_drifted 14 = .ok (.iload_n 3, 1) := by decide +kernel
theorem dX9_drifted_15 : decode cX9_drifted 15 = .ok (.aload_n 0, 1) := by decide +kernel
theorem dX9_drifted_16 : decode cX9_drifted 16 = .ok (.aload_n 1, 1) := by decide +kernel
theorem dX9_drifted_17 : decode cX9_drifted 17 = .ok (.iload_n 2, 1) := by decide +kernel
theorem dX9_drifted_18 : decode cX9_drifted 18 = .ok (.iload 4, 2) := by decide +kernel
theorem dX9_drifted_20 : decode cX9_drifted 20 = .ok (.invokevirtual 163, 3) := by decide +kernel
theorem dX9_drifted_23 : decode cX9_drifted 23 = .ok (.ifCond .eq 10, 3) := by decide +kernel
theorem dX9_drifted_26 : decode cX9_drifted 26 = .ok (.iconst 1, 1) := by decide +kernel
theorem dX9_drifted_27 : decode cX9_drifted 27 = .ok (.iload 4, 2) := by decide +kernel
theorem dX9_drifted_29 : decode cX9_drifted 29 = .ok (.ishl, 1) := by decide +kernel
theorem dX9_drifted_30 : decode cX9_drifted 30 = .ok (.goto 4, 3) := by decide +kernel
theorem dX9_drifted_33 : decode cX9_drifted 33 = .ok (.iconst 0, 1) := by decide +kernel
theorem dX9_drifted_34 : decode cX9_drifted 34 = .ok (.ior, 1) := by decide +kernel
theorem dX9_drifted_35 : decode cX9_drifted 35 = .ok (.istore_n 3, 1) := by decide +kernel
theorem dX9_drifted_36 : decode cX9_drifted 36 = .ok (.iinc 4 1, 3) := by decide +kernel
theorem dX9_drifted_39 : decode cX9_drifted 39 = .ok (.goto (-34), 3) := by decide +kernel
theorem dX9_drifted_42 : decode cX9_drifted 42 = .ok (.iload_n 3, 1) := by decide +kernel
theorem dX9_drifted_43 : decode cX9_drifted 43 = .ok (.ireturn, 1) := by decide +kernel
theorem dX9_ones_0 : decode cX9_ones 0 = .ok (.iconst 0, 1) := by decide +kernel
theorem dX9_ones_1 : decode cX9_ones 1 = .ok (.istore_n 1, 1) := by decide +kernel
theorem dX9_ones_2 : decode cX9_ones 2 = .ok (.iconst 0, 1) := by decide +kernel
theorem dX9_ones_3 : decode cX9_ones 3 = .ok (.istore_n 2, 1) := by decide +kernel
theorem dX9_ones_4 : decode cX9_ones 4 = .ok (.iload_n 2, 1) := by decide +kernel
theorem dX9_ones_5 : decode cX9_ones 5 = .ok (.bipush 30, 2) := by decide +kernel
theorem dX9_ones_7 : decode cX9_ones 7 = .ok (.if_icmp .ge 17, 3) := by decide +kernel
theorem dX9_ones_10 : decode cX9_ones 10 = .ok (.iload_n 1, 1) := by decide +kernel
theorem dX9_ones_11 : decode cX9_ones 11 = .ok (.iload_n 0, 1) := by decide +kernel
theorem dX9_ones_12 : decode cX9_ones 12 = .ok (.iload_n 2, 1) := by decide +kernel
theorem dX9_ones_13 : decode cX9_ones 13 = .ok (.ishr, 1) := by decide +kernel
theorem dX9_ones_14 : decode cX9_ones 14 = .ok (.iconst 1, 1) := by decide +kernel
theorem dX9_ones_15 : decode cX9_ones 15 = .ok (.iand, 1) := by decide +kernel
theorem dX9_ones_16 : decode cX9_ones 16 = .ok (.iadd, 1) := by decide +kernel
theorem dX9_ones_17 : decode cX9_ones 17 = .ok (.istore_n 1, 1) := by decide +kernel
theorem dX9_ones_18 : decode cX9_ones 18 = .ok (.iinc 2 1, 3) := by decide +kernel
theorem dX9_ones_21 : decode cX9_ones 21 = .ok (.goto (-17), 3) := by decide +kernel
theorem dX9_ones_24 : decode cX9_ones 24 = .ok (.iload_n 1, 1) := by decide +kernel
theorem dX9_ones_25 : decode cX9_ones 25 = .ok (.ireturn, 1) := by decide +kernel
theorem dX9_isQuarantined_0 : decode cX9_isQuarantined 0 = .ok (.aload_n 0, 1) := by decide +kernel
theorem dX9_isQuarantined_1 : decode cX9_isQuarantined 1 = .ok (.iload_n 1, 1) := by decide +kernel
theorem dX9_isQuarantined_2 : decode cX9_isQuarantined 2 = .ok (.invokestatic 126, 3) := by decide +kernel
theorem dX9_isQuarantined_5 : decode cX9_isQuarantined 5 = .ok (.bipush 14, 2) := by decide +kernel
theorem dX9_isQuarantined_7 : decode cX9_isQuarantined 7 = .ok (.iadd, 1) := by decide +kernel
theorem dX9_isQuarantined_8 : decode cX9_isQuarantined 8 = .ok (.iaload, 1) := by decide +kernel
theorem dX9_isQuarantined_9 : decode cX9_isQuarantined 9 = .ok (.aload_n 0, 1) := by decide +kernel
theorem dX9_isQuarantined_10 : decode cX9_isQuarantined 10 = .ok (.iconst 0, 1) := by decide +kernel
theorem dX9_isQuarantined_11 : decode cX9_isQuarantined 11 = .ok (.iaload, 1) := by decide +kernel
theorem dX9_isQuarantined_12 : decode cX9_isQuarantined 12 = .ok (.if_icmp .le 7, 3) := by decide +kernel
theorem dX9_isQuarantined_15 : decode cX9_isQuarantined 15 = .ok (.iconst 1, 1) := by decide +kernel
theorem dX9_isQuarantined_16 : decode cX9_isQuarantined 16 = .ok (.goto 4, 3) := by decide +kernel
theorem dX9_isQuarantined_19 : decode cX9_isQuarantined 19 = .ok (.iconst 0, 1) := by decide +kernel
theorem dX9_isQuarantined_20 : decode cX9_isQuarantined 20 = .ok (.ireturn, 1) := by decide +kernel
theorem dX9_lacking_0 : decode cX9_lacking 0 = .ok (.aload_n 0, 1) := by decide +kernel
theorem dX9_lacking_1 : decode cX9_lacking 1 = .ok (.iload_n 1, 1) := by decide +kernel
theorem dX9_lacking_2 : decode cX9_lacking 2 = .ok (.invokestatic 119, 3) := by decide +kernel
theorem dX9_lacking_5 : decode cX9_lacking 5 = .ok (.iaload, 1) := by decide +kernel
theorem dX9_lacking_6 : decode cX9_lacking 6 = .ok (.aload_n 0, 1) := by decide +kernel
theorem dX9_lacking_7 : decode cX9_lacking 7 = .ok (.iload_n 1, 1) := by decide +kernel
theorem dX9_lacking_8 : decode cX9_lacking 8 = .ok (.invokestatic 119, 3) := by decide +kernel
theorem dX9_lacking_11 : decode cX9_lacking 11 = .ok (.iconst 1, 1) := by decide +kernel
theorem dX9_lacking_12 : decode cX9_lacking 12 = .ok (.iadd, 1) := by decide +kernel
theorem dX9_lacking_13 : decode cX9_lacking 13 = .ok (.iload_n 2, 1) := by decide +kernel
theorem dX9_lacking_14 : decode cX9_lacking 14 = .ok (.iadd, 1) := by decide +kernel
theorem dX9_lacking_15 : decode cX9_lacking 15 = .ok (.iaload, 1) := by decide +kernel
theorem dX9_lacking_16 : decode cX9_lacking 16 = .ok (.invokestatic 167, 3) := by decide +kernel
theorem dX9_lacking_19 : decode cX9_lacking 19 = .ok (.isub, 1) := by decide +kernel
theorem dX9_lacking_20 : decode cX9_lacking 20 = .ok (.istore_n 3, 1) := by decide +kernel
theorem dX9_lacking_21 : decode cX9_lacking 21 = .ok (.iload_n 3, 1) := by decide +kernel
theorem dX9_lacking_22 : decode cX9_lacking 22 = .ok (.ifCond .ge 7, 3) := by decide +kernel
theorem dX9_lacking_25 : decode cX9_lacking 25 = .ok (.iconst 0, 1) := by decide +kernel
theorem dX9_lacking_26 : decode cX9_lacking 26 = .ok (.goto 4, 3) := by decide +kernel
theorem dX9_lacking_29 : decode cX9_lacking 29 = .ok (.iload_n 3, 1) := by decide +kernel
theorem dX9_lacking_30 : decode cX9_lacking 30 = .ok (.ireturn, 1) := by decide +kernel
theorem dX9_waitsForRings_0 : decode cX9_waitsForRings 0 = .ok (.iconst 0, 1) := by decide +kernel
theorem dX9_waitsForRings_1 : decode cX9_waitsForRings 1 = .ok (.istore 4, 2) := by decide +kernel
theorem dX9_waitsForRings_3 : decode cX9_waitsForRings 3 = .ok (.iconst 0, 1) := by decide +kernel
theorem dX9_waitsForRings_4 : decode cX9_waitsForRings 4 = .ok (.istore 5, 2) := by decide +kernel
theorem dX9_waitsForRings_6 : decode cX9_waitsForRings 6 = .ok (.iload 5, 2) := by decide +kernel
theorem dX9_waitsForRings_8 : decode cX9_waitsForRings 8 = .ok (.aload_n 0, 1) := by decide +kernel
theorem dX9_waitsForRings_9 : decode cX9_waitsForRings 9 = .ok (.getfield 13, 3) := by decide +kernel
theorem dX9_waitsForRings_12 : decode cX9_waitsForRings 12 = .ok (.if_icmp .ge 57, 3) := by decide +kernel
theorem dX9_waitsForRings_15 : decode cX9_waitsForRings 15 = .ok (.iload 4, 2) := by decide +kernel
theorem dX9_waitsForRings_17 : decode cX9_waitsForRings 17 = .ok (.ifCond .ne 39, 3) := by decide +kernel
theorem dX9_waitsForRings_20 : decode cX9_waitsForRings 20 = .ok (.aload_n 0, 1) := by decide +kernel
theorem dX9_waitsForRings_21 : decode cX9_waitsForRings 21 = .ok (.getfield 26, 3) := by decide +kernel
theorem dX9_waitsForRings_24 : decode cX9_waitsForRings 24 = .ok (.iload 5, 2) := by decide +kernel
theorem dX9_waitsForRings_26 : decode cX9_waitsForRings 26 = .ok (.iaload, 1) := by decide +kernel
theorem dX9_waitsForRings_27 : decode cX9_waitsForRings 27 = .ok (.aload_n 0, 1) := by decide +kernel
theorem dX9_waitsForRings_28 : decode cX9_waitsForRings 28 = .ok (.getfield 26, 3) := by decide +kernel
theorem dX9_waitsForRings_31 : decode cX9_waitsForRings 31 = .ok (.iload_n 2, 1) := by decide +kernel
theorem dX9_waitsForRings_32 : decode cX9_waitsForRings 32 = .ok (.iaload, 1) := by decide +kernel
theorem dX9_waitsForRings_33 : decode cX9_waitsForRings 33 = .ok (.if_icmp .ge 27, 3) := by decide +kernel
theorem dX9_waitsForRings_36 : decode cX9_waitsForRings 36 = .ok (.aload_n 1, 1) := by decide +kernel
theorem dX9_waitsForRings_37 : decode cX9_waitsForRings 37 = .ok (.iload 5, 2) := by decide +kernel
theorem dX9_waitsForRings_39 : decode cX9_waitsForRings 39 = .ok (.invokestatic 170, 3) := by decide +kernel
theorem dX9_waitsForRings_42 : decode cX9_waitsForRings 42 = .ok (.ifCond .ne 18, 3) := by decide +kernel
theorem dX9_waitsForRings_45 : decode cX9_waitsForRings 45 = .ok (.aload_n 0, 1) := by decide +kernel
theorem dX9_waitsForRings_46 : decode cX9_waitsForRings 46 = .ok (.aload_n 1, 1) := by decide +kernel
theorem dX9_waitsForRings_47 : decode cX9_waitsForRings 47 = .ok (.iload 5, 2) := by decide +kernel
theorem dX9_waitsForRings_49 : decode cX9_waitsForRings 49 = .ok (.iload_n 3, 1) := by decide +kernel
theorem dX9_waitsForRings_50 : decode cX9_waitsForRings 50 = .ok (.invokevirtual 163, 3) := by decide +kernel
theorem dX9_waitsForRings_53 : decode cX9_waitsForRings 53 = .ok (.ifCond .eq 7, 3) := by decide +kernel
theorem dX9_waitsForRings_56 : decode cX9_waitsForRings 56 = .ok (.iconst 1, 1) := by decide +kernel
theorem dX9_waitsForRings_57 : decode cX9_waitsForRings 57 = .ok (.goto 4, 3) := by decide +kernel
theorem dX9_waitsForRings_60 : decode cX9_waitsForRings 60 = .ok (.iconst 0, 1) := by decide +kernel
theorem dX9_waitsForRings_61 : decode cX9_waitsForRings 61 = .ok (.istore 4, 2) := by decide +kernel
theorem dX9_waitsForRings_63 : decode cX9_waitsForRings 63 = .ok (.iinc 5 1, 3) := by decide +kernel
theorem dX9_waitsForRings_66 : decode cX9_waitsForRings 66 = .ok (.goto (-60), 3) := by decide +kernel
theorem dX9_waitsForRings_69 : decode cX9_waitsForRings 69 = .ok (.iload 4, 2) := by decide +kernel
theorem dX9_waitsForRings_71 : decode cX9_waitsForRings 71 = .ok (.ireturn, 1) := by decide +kernel
theorem dX9_stateOf_0 : decode cX9_stateOf 0 = .ok (.aload_n 1, 1) := by decide +kernel
theorem dX9_stateOf_1 : decode cX9_stateOf 1 = .ok (.iload_n 2, 1) := by decide +kernel
theorem dX9_stateOf_2 : decode cX9_stateOf 2 = .ok (.invokestatic 126, 3) := by decide +kernel
theorem dX9_stateOf_5 : decode cX9_stateOf 5 = .ok (.bipush 6, 2) := by decide +kernel
theorem dX9_stateOf_7 : decode cX9_stateOf 7 = .ok (.iadd, 1) := by decide +kernel
theorem dX9_stateOf_8 : decode cX9_stateOf 8 = .ok (.iload_n 3, 1) := by decide +kernel
theorem dX9_stateOf_9 : decode cX9_stateOf 9 = .ok (.iadd, 1) := by decide +kernel
theorem dX9_stateOf_10 : decode cX9_stateOf 10 = .ok (.iaload, 1) := by decide +kernel
theorem dX9_stateOf_11 : decode cX9_stateOf 11 = .ok (.istore 4, 2) := by decide +kernel
theorem dX9_stateOf_13 : decode cX9_stateOf 13 = .ok (.aload_n 0, 1) := by decide +kernel
theorem dX9_stateOf_14 : decode cX9_stateOf 14 = .ok (.aload_n 1, 1) := by decide +kernel
theorem dX9_stateOf_15 : decode cX9_stateOf 15 = .ok (.iload_n 2, 1) := by decide +kernel
theorem dX9_stateOf_16 : decode cX9_stateOf 16 = .ok (.iload_n 3, 1) := by decide +kernel
theorem dX9_stateOf_17 : decode cX9_stateOf 17 = .ok (.invokevirtual 163, 3) := by decide +kernel
theorem dX9_stateOf_20 : decode cX9_stateOf 20 = .ok (.ifCond .ne 5, 3) := by decide +kernel
theorem dX9_stateOf_23 : decode cX9_stateOf 23 = .ok (.iconst 1, 1) := by decide +kernel
theorem dX9_stateOf_24 : decode cX9_stateOf 24 = .ok (.ireturn, 1) := by decide +kernel
theorem dX9_stateOf_25 : decode cX9_stateOf 25 = .ok (.aload_n 1, 1) := by decide +kernel
theorem dX9_stateOf_26 : decode cX9_stateOf 26 = .ok (.iload_n 2, 1) := by decide +kernel
theorem dX9_stateOf_27 : decode cX9_stateOf 27 = .ok (.invokestatic 170, 3) := by decide +kernel
theorem dX9_stateOf_30 : decode cX9_stateOf 30 = .ok (.ifCond .eq 5, 3) := by decide +kernel
theorem dX9_stateOf_33 : decode cX9_stateOf 33 = .ok (.iconst 2, 1) := by decide +kernel
theorem dX9_stateOf_34 : decode cX9_stateOf 34 = .ok (.ireturn, 1) := by decide +kernel
theorem dX9_stateOf_35 : decode cX9_stateOf 35 = .ok (.aload_n 1, 1) := by decide +kernel
theorem dX9_stateOf_36 : decode cX9_stateOf 36 = .ok (.iload_n 3, 1) := by decide +kernel
theorem dX9_stateOf_37 : decode cX9_stateOf 37 = .ok (.iload 4, 2) := by decide +kernel
theorem dX9_stateOf_39 : decode cX9_stateOf 39 = .ok (.invokestatic 174, 3) := by decide +kernel
theorem dX9_stateOf_42 : decode cX9_stateOf 42 = .ok (.ifCond .le 5, 3) := by decide +kernel
theorem dX9_stateOf_45 : decode cX9_stateOf 45 = .ok (.iconst 3, 1) := by decide +kernel
theorem dX9_stateOf_46 : decode cX9_stateOf 46 = .ok (.ireturn, 1) := by decide +kernel
theorem dX9_stateOf_47 : decode cX9_stateOf 47 = .ok (.aload_n 0, 1) := by decide +kernel
theorem dX9_stateOf_48 : decode cX9_stateOf 48 = .ok (.aload_n 1, 1) := by decide +kernel
theorem dX9_stateOf_49 : decode cX9_stateOf 49 = .ok (.iload_n 2, 1) := by decide +kernel
theorem dX9_stateOf_50 : decode cX9_stateOf 50 = .ok (.iload_n 3, 1) := by decide +kernel
theorem dX9_stateOf_51 : decode cX9_stateOf 51 = .ok (.invokevirtual 177, 3) := by decide +kernel
theorem dX9_stateOf_54 : decode cX9_stateOf 54 = .ok (.ifCond .eq 5, 3) := by decide +kernel
theorem dX9_stateOf_57 : decode cX9_stateOf 57 = .ok (.iconst 4, 1) := by decide +kernel
theorem dX9_stateOf_58 : decode cX9_stateOf 58 = .ok (.ireturn, 1) := by decide +kernel
theorem dX9_stateOf_59 : decode cX9_stateOf 59 = .ok (.aload_n 0, 1) := by decide +kernel
theorem dX9_stateOf_60 : decode cX9_stateOf 60 = .ok (.aload_n 1, 1) := by decide +kernel
theorem dX9_stateOf_61 : decode cX9_stateOf 61 = .ok (.iload_n 2, 1) := by decide +kernel
theorem dX9_stateOf_62 : decode cX9_stateOf 62 = .ok (.iload_n 3, 1) := by decide +kernel
theorem dX9_stateOf_63 : decode cX9_stateOf 63 = .ok (.iload 4, 2) := by decide +kernel
theorem dX9_stateOf_65 : decode cX9_stateOf 65 = .ok (.invokevirtual 180, 3) := by decide +kernel
theorem dX9_stateOf_68 : decode cX9_stateOf 68 = .ok (.ifCond .eq 7, 3) := by decide +kernel
theorem dX9_stateOf_71 : decode cX9_stateOf 71 = .ok (.iconst 5, 1) := by decide +kernel
theorem dX9_stateOf_72 : decode cX9_stateOf 72 = .ok (.goto 4, 3) := by decide +kernel
theorem dX9_stateOf_75 : decode cX9_stateOf 75 = .ok (.iconst 0, 1) := by decide +kernel
theorem dX9_stateOf_76 : decode cX9_stateOf 76 = .ok (.ireturn, 1) := by decide +kernel
theorem dX9_nextOf_0 : decode cX9_nextOf 0 = .ok (.iconst 0, 1) := by decide +kernel
theorem dX9_nextOf_1 : decode cX9_nextOf 1 = .ok (.istore_n 3, 1) := by decide +kernel
theorem dX9_nextOf_2 : decode cX9_nextOf 2 = .ok (.iload_n 3, 1) := by decide +kernel
theorem dX9_nextOf_3 : decode cX9_nextOf 3 = .ok (.aload_n 0, 1) := by decide +kernel
theorem dX9_nextOf_4 : decode cX9_nextOf 4 = .ok (.getfield 17, 3) := by decide +kernel
theorem dX9_nextOf_7 : decode cX9_nextOf 7 = .ok (.if_icmp .ge 21, 3) := by decide +kernel
theorem dX9_nextOf_10 : decode cX9_nextOf 10 = .ok (.aload_n 0, 1) := by decide +kernel
theorem dX9_nextOf_11 : decode cX9_nextOf 11 = .ok (.aload_n 1, 1) := by decide +kernel
theorem dX9_nextOf_12 : decode cX9_nextOf 12 = .ok (.iload_n 2, 1) := by decide +kernel
theorem dX9_nextOf_13 : decode cX9_nextOf 13 = .ok (.iload_n 3, 1) := by decide +kernel
theorem dX9_nextOf_14 : decode cX9_nextOf 14 = .ok (.invokevirtual 184, 3) := by decide +kernel
theorem dX9_nextOf_17 : decode cX9_nextOf 17 = .ok (.ifCond .ne 5, 3) := by decide +kernel
theorem dX9_nextOf_20 : decode cX9_nextOf 20 = .ok (.iload_n 3, 1) := by decide +kernel
theorem dX9_nextOf_21 : decode cX9_nextOf 21 = .ok (.ireturn, 1) := by decide +kernel
theorem dX9_nextOf_22 : decode cX9_nextOf 22 = .ok (.iinc 3 1, 3) := by decide +kernel
theorem dX9_nextOf_25 : decode cX9_nextOf 25 = .ok (.goto (-23), 3) := by decide +kernel
theorem dX9_nextOf_28 : decode cX9_nextOf 28 = .ok (.bipush (-9), 2) := by decide +kernel
theorem dX9_nextOf_30 : decode cX9_nextOf 30 = .ok (.ireturn, 1) := by decide +kernel
theorem dX9_tickOn_0 : decode cX9_tickOn 0 = .ok (.aload_n 1, 1) := by decide +kernel
theorem dX9_tickOn_1 : decode cX9_tickOn 1 = .ok (.iconst 0, 1) := by decide +kernel
theorem dX9_tickOn_2 : decode cX9_tickOn 2 = .ok (.dup2, 1) := by decide +kernel
theorem dX9_tickOn_3 : decode cX9_tickOn 3 = .ok (.iaload, 1) := by decide +kernel
theorem dX9_tickOn_4 : decode cX9_tickOn 4 = .ok (.iconst 1, 1) := by decide +kernel
theorem dX9_tickOn_5 : decode cX9_tickOn 5 = .ok (.iadd, 1) := by decide +kernel
theorem dX9_tickOn_6 : decode cX9_tickOn 6 = .ok (.iastore, 1) := by decide +kernel
theorem dX9_tickOn_7 : decode cX9_tickOn 7 = .ok (.iconst 0, 1) := by decide +kernel
theorem dX9_tickOn_8 : decode cX9_tickOn 8 = .ok (.istore_n 2, 1) := by decide +kernel
theorem dX9_tickOn_9 : decode cX9_tickOn 9 = .ok (.iload_n 2, 1) := by decide +kernel
theorem dX9_tickOn_10 : decode cX9_tickOn 10 = .ok (.aload_n 0, 1) := by decide +kernel
theorem dX9_tickOn_11 : decode cX9_tickOn 11 = .ok (.getfield 13, 3) := by decide +kernel
theorem dX9_tickOn_14 : decode cX9_tickOn 14 = .ok (.if_icmp .ge 136, 3) := by decide +kernel
theorem dX9_tickOn_17 : decode cX9_tickOn 17 = .ok (.aload_n 0, 1) := by decide +kernel
theorem dX9_tickOn_18 : decode cX9_tickOn 18 = .ok (.aload_n 1, 1) := by decide +kernel
theorem dX9_tickOn_19 : decode cX9_tickOn 19 = .ok (.iload_n 2, 1) := by decide +kernel
theorem dX9_tickOn_20 : decode cX9_tickOn 20 = .ok (.invokevirtual 187, 3) := by decide +kernel
theorem dX9_tickOn_23 : decode cX9_tickOn 23 = .ok (.istore_n 3, 1) := by decide +kernel
theorem dX9_tickOn_24 : decode cX9_tickOn 24 = .ok (.iload_n 2, 1) := by decide +kernel
theorem dX9_tickOn_25 : decode cX9_tickOn 25 = .ok (.invokestatic 126, 3) := by decide +kernel
theorem dX9_tickOn_28 : decode cX9_tickOn 28 = .ok (.istore 4, 2) := by decide +kernel
theorem dX9_tickOn_30 : decode cX9_tickOn 30 = .ok (.iload_n 3, 1) := by decide +kernel
theorem dX9_tickOn_31 : decode cX9_tickOn 31 = .ok (.bipush (-9), 2) := by decide +kernel
theorem dX9_tickOn_33 : decode cX9_tickOn 33 = .ok (.if_icmp .eq 75, 3) := by decide +kernel
theorem dX9_tickOn_36 : decode cX9_tickOn 36 = .ok (.aload_n 1, 1) := by decide +kernel
theorem dX9_tickOn_37 : decode cX9_tickOn 37 = .ok (.iload 4, 2) := by decide +kernel
theorem dX9_tickOn_39 : decode cX9_tickOn 39 = .ok (.bipush 12, 2) := by decide +kernel
theorem dX9_tickOn_41 : decode cX9_tickOn 41 = .ok (.iadd, 1) := by decide +kernel
theorem dX9_tickOn_42 : decode cX9_tickOn 42 = .ok (.iaload, 1) := by decide +kernel
theorem dX9_tickOn_43 : decode cX9_tickOn 43 = .ok (.ifCond .le 65, 3) := by decide +kernel
theorem dX9_tickOn_46 : decode cX9_tickOn 46 = .ok (.aload_n 1, 1) := by decide +kernel
theorem dX9_tickOn_47 : decode cX9_tickOn 47 = .ok (.iload 4, 2) := by decide +kernel
theorem dX9_tickOn_49 : decode cX9_tickOn 49 = .ok (.bipush 12, 2) := by decide +kernel
theorem dX9_tickOn_51 : decode cX9_tickOn 51 = .ok (.iadd, 1) := by decide +kernel
theorem dX9_tickOn_52 : decode cX9_tickOn 52 = .ok (.dup2, 1) := by decide +kernel
theorem dX9_tickOn_53 : decode cX9_tickOn 53 = .ok (.iaload, 1) := by decide +kernel
theorem dX9_tickOn_54 : decode cX9_tickOn 54 = .ok (.iconst 1, 1) := by decide +kernel
theorem dX9_tickOn_55 : decode cX9_tickOn 55 = .ok (.isub, 1) := by decide +kernel
theorem dX9_tickOn_56 : decode cX9_tickOn 56 = .ok (.iastore, 1) := by decide +kernel
theorem dX9_tickOn_57 : decode cX9_tickOn 57 = .ok (.aload_n 1, 1) := by decide +kernel
theorem dX9_tickOn_58 : decode cX9_tickOn 58 = .ok (.iload 4, 2) := by decide +kernel
theorem dX9_tickOn_60 : decode cX9_tickOn 60 = .ok (.bipush 13, 2) := by decide +kernel
theorem dX9_tickOn_62 : decode cX9_tickOn 62 = .ok (.iadd, 1) := by decide +kernel
theorem dX9_tickOn_63 : decode cX9_tickOn 63 = .ok (.dup2, 1) := by decide +kernel
theorem dX9_tickOn_64 : decode cX9_tickOn 64 = .ok (.iaload, 1) := by decide +kernel
theorem dX9_tickOn_65 : decode cX9_tickOn 65 = .ok (.iconst 1, 1) := by decide +kernel
theorem dX9_tickOn_66 : decode cX9_tickOn 66 = .ok (.iadd, 1) := by decide +kernel
theorem dX9_tickOn_67 : decode cX9_tickOn 67 = .ok (.iastore, 1) := by decide +kernel
theorem dX9_tickOn_68 : decode cX9_tickOn 68 = .ok (.aload_n 1, 1) := by decide +kernel
theorem dX9_tickOn_69 : decode cX9_tickOn 69 = .ok (.iload 4, 2) := by decide +kernel
theorem dX9_tickOn_71 : decode cX9_tickOn 71 = .ok (.bipush 13, 2) := by decide +kernel
theorem dX9_tickOn_73 : decode cX9_tickOn 73 = .ok (.iadd, 1) := by decide +kernel
theorem dX9_tickOn_74 : decode cX9_tickOn 74 = .ok (.iaload, 1) := by decide +kernel
theorem dX9_tickOn_75 : decode cX9_tickOn 75 = .ok (.aload_n 0, 1) := by decide +kernel
theorem dX9_tickOn_76 : decode cX9_tickOn 76 = .ok (.getfield 20, 3) := by decide +kernel
theorem dX9_tickOn_79 : decode cX9_tickOn 79 = .ok (.if_icmp .ne 65, 3) := by decide +kernel
theorem dX9_tickOn_82 : decode cX9_tickOn 82 = .ok (.aload_n 1, 1) := by decide +kernel
theorem dX9_tickOn_83 : decode cX9_tickOn 83 = .ok (.iload 4, 2) := by decide +kernel
theorem dX9_tickOn_85 : decode cX9_tickOn 85 = .ok (.bipush 13, 2) := by decide +kernel
theorem dX9_tickOn_87 : decode cX9_tickOn 87 = .ok (.iadd, 1) := by decide +kernel
theorem dX9_tickOn_88 : decode cX9_tickOn 88 = .ok (.iconst 0, 1) := by decide +kernel
theorem dX9_tickOn_89 : decode cX9_tickOn 89 = .ok (.iastore, 1) := by decide +kernel
theorem dX9_tickOn_90 : decode cX9_tickOn 90 = .ok (.aload_n 1, 1) := by decide +kernel
theorem dX9_tickOn_91 : decode cX9_tickOn 91 = .ok (.iload 4, 2) := by decide +kernel
theorem dX9_tickOn_93 : decode cX9_tickOn 93 = .ok (.bipush 14, 2) := by decide +kernel
theorem dX9_tickOn_95 : decode cX9_tickOn 95 = .ok (.iadd, 1) := by decide +kernel
theorem dX9_tickOn_96 : decode cX9_tickOn 96 = .ok (.aload_n 1, 1) := by decide +kernel
theorem dX9_tickOn_97 : decode cX9_tickOn 97 = .ok (.iconst 0, 1) := by decide +kernel
theorem dX9_tickOn_98 : decode cX9_tickOn 98 = .ok (.iaload, 1) := by decide +kernel
theorem dX9_tickOn_99 : decode cX9_tickOn 99 = .ok (.aload_n 0, 1) := by decide +kernel
theorem dX9_tickOn_100 : decode cX9_tickOn 100 = .ok (.getfield 23, 3) := by decide +kernel
theorem dX9_tickOn_103 : decode cX9_tickOn 103 = .ok (.iadd, 1) := by decide +kernel
theorem dX9_tickOn_104 : decode cX9_tickOn 104 = .ok (.iastore, 1) := by decide +kernel
theorem dX9_tickOn_105 : decode cX9_tickOn 105 = .ok (.goto 39, 3) := by decide +kernel
theorem dX9_tickOn_108 : decode cX9_tickOn 108 = .ok (.iload_n 3, 1) := by decide +kernel
theorem dX9_tickOn_109 : decode cX9_tickOn 109 = .ok (.bipush (-9), 2) := by decide +kernel
theorem dX9_tickOn_111 : decode cX9_tickOn 111 = .ok (.if_icmp .eq 33, 3) := by decide +kernel
theorem dX9_tickOn_114 : decode cX9_tickOn 114 = .ok (.aload_n 1, 1) := by decide +kernel
theorem dX9_tickOn_115 : decode cX9_tickOn 115 = .ok (.iload 4, 2) := by decide +kernel
theorem dX9_tickOn_117 : decode cX9_tickOn 117 = .ok (.iload_n 3, 1) := by decide +kernel
theorem dX9_tickOn_118 : decode cX9_tickOn 118 = .ok (.iadd, 1) := by decide +kernel
theorem dX9_tickOn_119 : decode cX9_tickOn 119 = .ok (.aload_n 1, 1) := by decide +kernel
theorem dX9_tickOn_120 : decode cX9_tickOn 120 = .ok (.iload 4, 2) := by decide +kernel
theorem dX9_tickOn_122 : decode cX9_tickOn 122 = .ok (.bipush 6, 2) := by decide +kernel
theorem dX9_tickOn_124 : decode cX9_tickOn 124 = .ok (.iadd, 1) := by decide +kernel
theorem dX9_tickOn_125 : decode cX9_tickOn 125 = .ok (.iload_n 3, 1) := by decide +kernel
theorem dX9_tickOn_126 : decode cX9_tickOn 126 = .ok (.iadd, 1) := by decide +kernel
theorem dX9_tickOn_127 : decode cX9_tickOn 127 = .ok (.iaload, 1) := by decide +kernel
theorem dX9_tickOn_128 : decode cX9_tickOn 128 = .ok (.iastore, 1) := by decide +kernel
theorem dX9_tickOn_129 : decode cX9_tickOn 129 = .ok (.aload_n 1, 1) := by decide +kernel
theorem dX9_tickOn_130 : decode cX9_tickOn 130 = .ok (.iload 4, 2) := by decide +kernel
theorem dX9_tickOn_132 : decode cX9_tickOn 132 = .ok (.bipush 13, 2) := by decide +kernel
theorem dX9_tickOn_134 : decode cX9_tickOn 134 = .ok (.iadd, 1) := by decide +kernel
theorem dX9_tickOn_135 : decode cX9_tickOn 135 = .ok (.iconst 0, 1) := by decide +kernel
theorem dX9_tickOn_136 : decode cX9_tickOn 136 = .ok (.iastore, 1) := by decide +kernel
theorem dX9_tickOn_137 : decode cX9_tickOn 137 = .ok (.aload_n 1, 1) := by decide +kernel
theorem dX9_tickOn_138 : decode cX9_tickOn 138 = .ok (.iconst 1, 1) := by decide +kernel
theorem dX9_tickOn_139 : decode cX9_tickOn 139 = .ok (.dup2, 1) := by decide +kernel
theorem dX9_tickOn_140 : decode cX9_tickOn 140 = .ok (.iaload, 1) := by decide +kernel
theorem dX9_tickOn_141 : decode cX9_tickOn 141 = .ok (.iconst 1, 1) := by decide +kernel
theorem dX9_tickOn_142 : decode cX9_tickOn 142 = .ok (.iadd, 1) := by decide +kernel
theorem dX9_tickOn_143 : decode cX9_tickOn 143 = .ok (.iastore, 1) := by decide +kernel
theorem dX9_tickOn_144 : decode cX9_tickOn 144 = .ok (.iinc 2 1, 3) := by decide +kernel
theorem dX9_tickOn_147 : decode cX9_tickOn 147 = .ok (.goto (-138), 3) := by decide +kernel
theorem dX9_tickOn_150 : decode cX9_tickOn 150 = .ok (.return_, 1) := by decide +kernel
theorem dX9_calmNodes_0 : decode cX9_calmNodes 0 = .ok (.iconst 0, 1) := by decide +kernel
theorem dX9_calmNodes_1 : decode cX9_calmNodes 1 = .ok (.istore_n 2, 1) := by decide +kernel
theorem dX9_calmNodes_2 : decode cX9_calmNodes 2 = .ok (.iconst 0, 1) := by decide +kernel
theorem dX9_calmNodes_3 : decode cX9_calmNodes 3 = .ok (.istore_n 3, 1) := by decide +kernel
theorem dX9_calmNodes_4 : decode cX9_calmNodes 4 = .ok (.iload_n 3, 1) := by decide +kernel
theorem dX9_calmNodes_5 : decode cX9_calmNodes 5 = .ok (.aload_n 0, 1) := by decide +kernel
theorem dX9_calmNodes_6 : decode cX9_calmNodes 6 = .ok (.getfield 13, 3) := by decide +kernel
theorem dX9_calmNodes_9 : decode cX9_calmNodes 9 = .ok (.if_icmp .ge 28, 3) := by decide +kernel
theorem dX9_calmNodes_12 : decode cX9_calmNodes 12 = .ok (.iload_n 2, 1) := by decide +kernel
theorem dX9_calmNodes_13 : decode cX9_calmNodes 13 = .ok (.aload_n 0, 1) := by decide +kernel
theorem dX9_calmNodes_14 : decode cX9_calmNodes 14 = .ok (.aload_n 1, 1) := by decide +kernel
theorem dX9_calmNodes_15 : decode cX9_calmNodes 15 = .ok (.iload_n 3, 1) := by decide +kernel
theorem dX9_calmNodes_16 : decode cX9_calmNodes 16 = .ok (.invokevirtual 191, 3) := by decide +kernel
theorem dX9_calmNodes_19 : decode cX9_calmNodes 19 = .ok (.ifCond .ne 9, 3) := by decide +kernel
theorem dX9_calmNodes_22 : decode cX9_calmNodes 22 = .ok (.iconst 1, 1) := by decide +kernel
theorem dX9_calmNodes_23 : decode cX9_calmNodes 23 = .ok (.iload_n 3, 1) := by decide +kernel
theorem dX9_calmNodes_24 : decode cX9_calmNodes 24 = .ok (.ishl, 1) := by decide +kernel
theorem dX9_calmNodes_25 : decode cX9_calmNodes 25 = .ok (.goto 4, 3) := by decide +kernel
theorem dX9_calmNodes_28 : decode cX9_calmNodes 28 = .ok (.iconst 0, 1) := by decide +kernel
theorem dX9_calmNodes_29 : decode cX9_calmNodes 29 = .ok (.ior, 1) := by decide +kernel
theorem dX9_calmNodes_30 : decode cX9_calmNodes 30 = .ok (.istore_n 2, 1) := by decide +kernel
theorem dX9_calmNodes_31 : decode cX9_calmNodes 31 = .ok (.iinc 3 1, 3) := by decide +kernel
theorem dX9_calmNodes_34 : decode cX9_calmNodes 34 = .ok (.goto (-30), 3) := by decide +kernel
theorem dX9_calmNodes_37 : decode cX9_calmNodes 37 = .ok (.iload_n 2, 1) := by decide +kernel
theorem dX9_calmNodes_38 : decode cX9_calmNodes 38 = .ok (.ireturn, 1) := by decide +kernel
theorem dX9_about_0 : decode cX9_about 0 = .ok (.aload_n 0, 1) := by decide +kernel
theorem dX9_about_1 : decode cX9_about 1 = .ok (.iload_n 1, 1) := by decide +kernel
theorem dX9_about_2 : decode cX9_about 2 = .ok (.i2l, 1) := by decide +kernel
theorem dX9_about_3 : decode cX9_about 3 = .ok (.lconst 0, 1) := by decide +kernel
theorem dX9_about_4 : decode cX9_about 4 = .ok (.ldc2_w 194, 3) := by decide +kernel
theorem dX9_about_7 : decode cX9_about 7 = .ok (.invokestatic 82, 3) := by decide +kernel
theorem dX9_about_10 : decode cX9_about 10 = .ok (.ifCond .eq 7, 3) := by decide +kernel
theorem dX9_about_13 : decode cX9_about 13 = .ok (.iconst 0, 1) := by decide +kernel
theorem dX9_about_14 : decode cX9_about 14 = .ok (.goto 4, 3) := by decide +kernel
theorem dX9_about_17 : decode cX9_about 17 = .ok (.iconst 1, 1) := by decide +kernel
theorem dX9_about_18 : decode cX9_about 18 = .ok (.invokevirtual 93, 3) := by decide +kernel
theorem dX9_about_21 : decode cX9_about 21 = .ok (.ifCond .eq 5, 3) := by decide +kernel
theorem dX9_about_24 : decode cX9_about 24 = .ok (.iconst 0, 1) := by decide +kernel
theorem dX9_about_25 : decode cX9_about 25 = .ok (.ireturn, 1) := by decide +kernel
theorem dX9_about_26 : decode cX9_about 26 = .ok (.iload_n 1, 1) := by decide +kernel
theorem dX9_about_27 : decode cX9_about 27 = .ok (.tableswitch 80 0 6 #[41, 46, 51, 56, 61, 66, 73], 41) := by decide +kernel
theorem dX9_about_68 : decode cX9_about 68 = .ok (.aload_n 0, 1) := by decide +kernel
theorem dX9_about_69 : decode cX9_about 69 = .ok (.getfield 13, 3) := by decide +kernel
theorem dX9_about_72 : decode cX9_about 72 = .ok (.ireturn, 1) := by decide +kernel
theorem dX9_about_73 : decode cX9_about 73 = .ok (.aload_n 0, 1) := by decide +kernel
theorem dX9_about_74 : decode cX9_about 74 = .ok (.getfield 17, 3) := by decide +kernel
theorem dX9_about_77 : decode cX9_about 77 = .ok (.ireturn, 1) := by decide +kernel
theorem dX9_about_78 : decode cX9_about 78 = .ok (.aload_n 0, 1) := by decide +kernel
theorem dX9_about_79 : decode cX9_about 79 = .ok (.getfield 146, 3) := by decide +kernel
theorem dX9_about_82 : decode cX9_about 82 = .ok (.ireturn, 1) := by decide +kernel
theorem dX9_about_83 : decode cX9_about 83 = .ok (.aload_n 0, 1) := by decide +kernel
theorem dX9_about_84 : decode cX9_about 84 = .ok (.getfield 20, 3) := by decide +kernel
theorem dX9_about_87 : decode cX9_about 87 = .ok (.ireturn, 1) := by decide +kernel
theorem dX9_about_88 : decode cX9_about 88 = .ok (.aload_n 0, 1) := by decide +kernel
theorem dX9_about_89 : decode cX9_about 89 = .ok (.getfield 23, 3) := by decide +kernel
theorem dX9_about_92 : decode cX9_about 92 = .ok (.ireturn, 1) := by decide +kernel
theorem dX9_about_93 : decode cX9_about 93 = .ok (.aload_n 0, 1) := by decide +kernel
theorem dX9_about_94 : decode cX9_about 94 = .ok (.getfield 41, 3) := by decide +kernel
theorem dX9_about_97 : decode cX9_about 97 = .ok (.iconst 0, 1) := by decide +kernel
theorem dX9_about_98 : decode cX9_about 98 = .ok (.iaload, 1) := by decide +kernel
theorem dX9_about_99 : decode cX9_about 99 = .ok (.ireturn, 1) := by decide +kernel
theorem dX9_about_100 : decode cX9_about 100 = .ok (.aload_n 0, 1) := by decide +kernel
theorem dX9_about_101 : decode cX9_about 101 = .ok (.getfield 41, 3) := by decide +kernel
theorem dX9_about_104 : decode cX9_about 104 = .ok (.iconst 1, 1) := by decide +kernel
theorem dX9_about_105 : decode cX9_about 105 = .ok (.iaload, 1) := by decide +kernel
theorem dX9_about_106 : decode cX9_about 106 = .ok (.ireturn, 1) := by decide +kernel
theorem dX9_about_107 : decode cX9_about 107 = .ok (.aload_n 0, 1) := by decide +kernel
theorem dX9_about_108 : decode cX9_about 108 = .ok (.aload_n 0, 1) := by decide +kernel
theorem dX9_about_109 : decode cX9_about 109 = .ok (.getfield 41, 3) := by decide +kernel
theorem dX9_about_112 : decode cX9_about 112 = .ok (.invokevirtual 196, 3) := by decide +kernel
theorem dX9_about_115 : decode cX9_about 115 = .ok (.ireturn, 1) := by decide +kernel
theorem dX9_digestOf_0 : decode cX9_digestOf 0 = .ok (.iconst 0, 1) := by decide +kernel
theorem dX9_digestOf_1 : decode cX9_digestOf 1 = .ok (.istore_n 3, 1) := by decide +kernel
theorem dX9_digestOf_2 : decode cX9_digestOf 2 = .ok (.iconst 0, 1) := by decide +kernel
theorem dX9_digestOf_3 : decode cX9_digestOf 3 = .ok (.istore 4, 2) := by decide +kernel
theorem dX9_digestOf_5 : decode cX9_digestOf 5 = .ok (.iload 4, 2) := by decide +kernel
theorem dX9_digestOf_7 : decode cX9_digestOf 7 = .ok (.aload_n 0, 1) := by decide +kernel
theorem dX9_digestOf_8 : decode cX9_digestOf 8 = .ok (.getfield 17, 3) := by decide +kernel
theorem dX9_digestOf_11 : decode cX9_digestOf 11 = .ok (.if_icmp .ge 26, 3) := by decide +kernel
theorem dX9_digestOf_14 : decode cX9_digestOf 14 = .ok (.iload_n 3, 1) := by decide +kernel
theorem dX9_digestOf_15 : decode cX9_digestOf 15 = .ok (.iload 4, 2) := by decide +kernel
theorem dX9_digestOf_17 : decode cX9_digestOf 17 = .ok (.iconst 1, 1) := by decide +kernel
theorem dX9_digestOf_18 : decode cX9_digestOf 18 = .ok (.iadd, 1) := by decide +kernel
theorem dX9_digestOf_19 : decode cX9_digestOf 19 = .ok (.aload_n 1, 1) := by decide +kernel
theorem dX9_digestOf_20 : decode cX9_digestOf 20 = .ok (.iload_n 2, 1) := by decide +kernel
theorem dX9_digestOf_21 : decode cX9_digestOf 21 = .ok (.invokestatic 126, 3) := by decide +kernel
theorem dX9_digestOf_24 : decode cX9_digestOf 24 = .ok (.iload 4, 2) := by decide +kernel
theorem dX9_digestOf_26 : decode cX9_digestOf 26 = .ok (.iadd, 1) := by decide +kernel
theorem dX9_digestOf_27 : decode cX9_digestOf 27 = .ok (.iaload, 1) := by decide +kernel
theorem dX9_digestOf_28 : decode cX9_digestOf 28 = .ok (.imul, 1) := by decide +kernel
theorem dX9_digestOf_29 : decode cX9_digestOf 29 = .ok (.iadd, 1) := by decide +kernel
theorem dX9_digestOf_30 : decode cX9_digestOf 30 = .ok (.istore_n 3, 1) := by decide +kernel
theorem dX9_digestOf_31 : decode cX9_digestOf 31 = .ok (.iinc 4 1, 3) := by decide +kernel
theorem dX9_digestOf_34 : decode cX9_digestOf 34 = .ok (.goto (-29), 3) := by decide +kernel
theorem dX9_digestOf_37 : decode cX9_digestOf 37 = .ok (.iload_n 3, 1) := by decide +kernel
theorem dX9_digestOf_38 : decode cX9_digestOf 38 = .ok (.ireturn, 1) := by decide +kernel
theorem dX9_tell_0 : decode cX9_tell 0 = .ok (.iload_n 3, 1) := by decide +kernel
theorem dX9_tell_1 : decode cX9_tell 1 = .ok (.tableswitch 108 0 5 #[39, 46, 56, 66, 89, 96], 39) := by decide +kernel
theorem dX9_tell_40 : decode cX9_tell 40 = .ok (.aload_n 0, 1) := by decide +kernel
theorem dX9_tell_41 : decode cX9_tell 41 = .ok (.getfield 26, 3) := by decide +kernel
theorem dX9_tell_44 : decode cX9_tell 44 = .ok (.iload_n 2, 1) := by decide +kernel
theorem dX9_tell_45 : decode cX9_tell 45 = .ok (.iaload, 1) := by decide +kernel
theorem dX9_tell_46 : decode cX9_tell 46 = .ok (.ireturn, 1) := by decide +kernel
theorem dX9_tell_47 : decode cX9_tell 47 = .ok (.aload_n 1, 1) := by decide +kernel
theorem dX9_tell_48 : decode cX9_tell 48 = .ok (.iload_n 2, 1) := by decide +kernel
theorem dX9_tell_49 : decode cX9_tell 49 = .ok (.invokestatic 126, 3) := by decide +kernel
theorem dX9_tell_52 : decode cX9_tell 52 = .ok (.bipush 12, 2) := by decide +kernel
theorem dX9_tell_54 : decode cX9_tell 54 = .ok (.iadd, 1) := by decide +kernel
theorem dX9_tell_55 : decode cX9_tell 55 = .ok (.iaload, 1) := by decide +kernel
theorem dX9_tell_56 : decode cX9_tell 56 = .ok (.ireturn, 1) := by decide +kernel
theorem dX9_tell_57 : decode cX9_tell 57 = .ok (.aload_n 1, 1) := by decide +kernel
theorem dX9_tell_58 : decode cX9_tell 58 = .ok (.iload_n 2, 1) := by decide +kernel
theorem dX9_tell_59 : decode cX9_tell 59 = .ok (.invokestatic 126, 3) := by decide +kernel
theorem dX9_tell_62 : decode cX9_tell 62 = .ok (.bipush 13, 2) := by decide +kernel
theorem dX9_tell_64 : decode cX9_tell 64 = .ok (.iadd, 1) := by decide +kernel
theorem dX9_tell_65 : decode cX9_tell 65 = .ok (.iaload, 1) := by decide +kernel
theorem dX9_tell_66 : decode cX9_tell 66 = .ok (.ireturn, 1) := by decide +kernel
theorem dX9_tell_67 : decode cX9_tell 67 = .ok (.aload_n 1, 1) := by decide +kernel
theorem dX9_tell_68 : decode cX9_tell 68 = .ok (.iload_n 2, 1) := by decide +kernel
theorem dX9_tell_69 : decode cX9_tell 69 = .ok (.invokestatic 170, 3) := by decide +kernel
theorem dX9_tell_72 : decode cX9_tell 72 = .ok (.ifCond .eq 15, 3) := by decide +kernel
theorem dX9_tell_75 : decode cX9_tell 75 = .ok (.aload_n 1, 1) := by decide +kernel
theorem dX9_tell_76 : decode cX9_tell 76 = .ok (.iload_n 2, 1) := by decide +kernel
theorem dX9_tell_77 : decode cX9_tell 77 = .ok (.invokestatic 126, 3) := by decide +kernel
theorem dX9_tell_80 : decode cX9_tell 80 = .ok (.bipush 14, 2) := by decide +kernel
theorem dX9_tell_82 : decode cX9_tell 82 = .ok (.iadd, 1) := by decide +kernel
theorem dX9_tell_83 : decode cX9_tell 83 = .ok (.iaload, 1) := by decide +kernel
theorem dX9_tell_84 : decode cX9_tell 84 = .ok (.goto 5, 3) := by decide +kernel
theorem dX9_tell_87 : decode cX9_tell 87 = .ok (.bipush (-9), 2) := by decide +kernel
theorem dX9_tell_89 : decode cX9_tell 89 = .ok (.ireturn, 1) := by decide +kernel
theorem dX9_tell_90 : decode cX9_tell 90 = .ok (.aload_n 0, 1) := by decide +kernel
theorem dX9_tell_91 : decode cX9_tell 91 = .ok (.aload_n 1, 1) := by decide +kernel
theorem dX9_tell_92 : decode cX9_tell 92 = .ok (.iload_n 2, 1) := by decide +kernel
theorem dX9_tell_93 : decode cX9_tell 93 = .ok (.invokevirtual 191, 3) := by decide +kernel
theorem dX9_tell_96 : decode cX9_tell 96 = .ok (.ireturn, 1) := by decide +kernel
theorem dX9_tell_97 : decode cX9_tell 97 = .ok (.aload_n 0, 1) := by decide +kernel
theorem dX9_tell_98 : decode cX9_tell 98 = .ok (.aload_n 0, 1) := by decide +kernel
theorem dX9_tell_99 : decode cX9_tell 99 = .ok (.aload_n 1, 1) := by decide +kernel
theorem dX9_tell_100 : decode cX9_tell 100 = .ok (.iload_n 2, 1) := by decide +kernel
theorem dX9_tell_101 : decode cX9_tell 101 = .ok (.iconst 0, 1) := by decide +kernel
theorem dX9_tell_102 : decode cX9_tell 102 = .ok (.invokevirtual 153, 3) := by decide +kernel
theorem dX9_tell_105 : decode cX9_tell 105 = .ok (.invokevirtual 160, 3) := by decide +kernel
theorem dX9_tell_108 : decode cX9_tell 108 = .ok (.ireturn, 1) := by decide +kernel
theorem dX9_tell_109 : decode cX9_tell 109 = .ok (.aload_n 0, 1) := by decide +kernel
theorem dX9_tell_110 : decode cX9_tell 110 = .ok (.aload_n 1, 1) := by decide +kernel
theorem dX9_tell_111 : decode cX9_tell 111 = .ok (.iload_n 2, 1) := by decide +kernel
theorem dX9_tell_112 : decode cX9_tell 112 = .ok (.invokevirtual 200, 3) := by decide +kernel
theorem dX9_tell_115 : decode cX9_tell 115 = .ok (.ireturn, 1) := by decide +kernel
theorem dX9_node_0 : decode cX9_node 0 = .ok (.aload_n 0, 1) := by decide +kernel
theorem dX9_node_1 : decode cX9_node 1 = .ok (.aload_n 0, 1) := by decide +kernel
theorem dX9_node_2 : decode cX9_node 2 = .ok (.iload_n 1, 1) := by decide +kernel
theorem dX9_node_3 : decode cX9_node 3 = .ok (.invokevirtual 203, 3) := by decide +kernel
theorem dX9_node_6 : decode cX9_node 6 = .ok (.ifCond .ne 7, 3) := by decide +kernel
theorem dX9_node_9 : decode cX9_node 9 = .ok (.iconst 1, 1) := by decide +kernel
theorem dX9_node_10 : decode cX9_node 10 = .ok (.goto 20, 3) := by decide +kernel
theorem dX9_node_13 : decode cX9_node 13 = .ok (.iload_n 2, 1) := by decide +kernel
theorem dX9_node_14 : decode cX9_node 14 = .ok (.i2l, 1) := by decide +kernel
theorem dX9_node_15 : decode cX9_node 15 = .ok (.lconst 0, 1) := by decide +kernel
theorem dX9_node_16 : decode cX9_node 16 = .ok (.ldc2_w 206, 3) := by decide +kernel
theorem dX9_node_19 : decode cX9_node 19 = .ok (.invokestatic 82, 3) := by decide +kernel
theorem dX9_node_22 : decode cX9_node 22 = .ok (.ifCond .ne 7, 3) := by decide +kernel
theorem dX9_node_25 : decode cX9_node 25 = .ok (.iconst 2, 1) := by decide +kernel
theorem dX9_node_26 : decode cX9_node 26 = .ok (.goto 4, 3) := by decide +kernel
theorem dX9_node_29 : decode cX9_node 29 = .ok (.iconst 0, 1) := by decide +kernel
theorem dX9_node_30 : decode cX9_node 30 = .ok (.invokevirtual 93, 3) := by decide +kernel
theorem dX9_node_33 : decode cX9_node 33 = .ok (.ifCond .eq 5, 3) := by decide +kernel
theorem dX9_node_36 : decode cX9_node 36 = .ok (.iconst 0, 1) := by decide +kernel
theorem dX9_node_37 : decode cX9_node 37 = .ok (.ireturn, 1) := by decide +kernel
theorem dX9_node_38 : decode cX9_node 38 = .ok (.aload_n 0, 1) := by decide +kernel
theorem dX9_node_39 : decode cX9_node 39 = .ok (.aload_n 0, 1) := by decide +kernel
theorem dX9_node_40 : decode cX9_node 40 = .ok (.getfield 41, 3) := by decide +kernel
theorem dX9_node_43 : decode cX9_node 43 = .ok (.iload_n 1, 1) := by decide +kernel
theorem dX9_node_44 : decode cX9_node 44 = .ok (.iload_n 2, 1) := by decide +kernel
theorem dX9_node_45 : decode cX9_node 45 = .ok (.invokevirtual 208, 3) := by decide +kernel
theorem dX9_node_48 : decode cX9_node 48 = .ok (.ireturn, 1) := by decide +kernel
theorem dX9_version_0 : decode cX9_version 0 = .ok (.aload_n 0, 1) := by decide +kernel
theorem dX9_version_1 : decode cX9_version 1 = .ok (.aload_n 0, 1) := by decide +kernel
theorem dX9_version_2 : decode cX9_version 2 = .ok (.iload_n 1, 1) := by decide +kernel
theorem dX9_version_3 : decode cX9_version 3 = .ok (.invokevirtual 203, 3) := by decide +kernel
theorem dX9_version_6 : decode cX9_version 6 = .ok (.ifCond .eq 15, 3) := by decide +kernel
theorem dX9_version_9 : decode cX9_version 9 = .ok (.aload_n 0, 1) := by decide +kernel
theorem dX9_version_10 : decode cX9_version 10 = .ok (.iload_n 2, 1) := by decide +kernel
theorem dX9_version_11 : decode cX9_version 11 = .ok (.invokevirtual 211, 3) := by decide +kernel
theorem dX9_version_14 : decode cX9_version 14 = .ok (.ifCond .eq 7, 3) := by decide +kernel
theorem dX9_version_17 : decode cX9_version 17 = .ok (.iconst 0, 1) := by decide +kernel
theorem dX9_version_18 : decode cX9_version 18 = .ok (.goto 4, 3) := by decide +kernel
theorem dX9_version_21 : decode cX9_version 21 = .ok (.iconst 1, 1) := by decide +kernel
theorem dX9_version_22 : decode cX9_version 22 = .ok (.invokevirtual 93, 3) := by decide +kernel
theorem dX9_version_25 : decode cX9_version 25 = .ok (.ifCond .eq 5, 3) := by decide +kernel
theorem dX9_version_28 : decode cX9_version 28 = .ok (.iconst 0, 1) := by decide +kernel
theorem dX9_version_29 : decode cX9_version 29 = .ok (.ireturn, 1) := by decide +kernel
theorem dX9_version_30 : decode cX9_version 30 = .ok (.aload_n 0, 1) := by decide +kernel
theorem dX9_version_31 : decode cX9_version 31 = .ok (.getfield 41, 3) := by decide +kernel
theorem dX9_version_34 : decode cX9_version 34 = .ok (.iload_n 1, 1) := by decide +kernel
theorem dX9_version_35 : decode cX9_version 35 = .ok (.invokestatic 126, 3) := by decide +kernel
theorem dX9_version_38 : decode cX9_version 38 = .ok (.iload_n 3, 1) := by decide +kernel
theorem dX9_version_39 : decode cX9_version 39 = .ok (.ifCond .eq 8, 3) := by decide +kernel
theorem dX9_version_42 : decode cX9_version 42 = .ok (.bipush 6, 2) := by decide +kernel
theorem dX9_version_44 : decode cX9_version 44 = .ok (.goto 4, 3) := by decide +kernel
theorem dX9_version_47 : decode cX9_version 47 = .ok (.iconst 0, 1) := by decide +kernel
theorem dX9_version_48 : decode cX9_version 48 = .ok (.iadd, 1) := by decide +kernel
theorem dX9_version_49 : decode cX9_version 49 = .ok (.iload_n 2, 1) := by decide +kernel
theorem dX9_version_50 : decode cX9_version 50 = .ok (.iadd, 1) := by decide +kernel
theorem dX9_version_51 : decode cX9_version 51 = .ok (.iaload, 1) := by decide +kernel
theorem dX9_version_52 : decode cX9_version 52 = .ok (.ireturn, 1) := by decide +kernel
theorem dX9_rule_0 : decode cX9_rule 0 = .ok (.aload_n 0, 1) := by decide +kernel
theorem dX9_rule_1 : decode cX9_rule 1 = .ok (.iload_n 1, 1) := by decide +kernel
theorem dX9_rule_2 : decode cX9_rule 2 = .ok (.i2l, 1) := by decide +kernel
theorem dX9_rule_3 : decode cX9_rule 3 = .ok (.lconst 0, 1) := by decide +kernel
theorem dX9_rule_4 : decode cX9_rule 4 = .ok (.aload_n 0, 1) := by decide +kernel
theorem dX9_rule_5 : decode cX9_rule 5 = .ok (.getfield 146, 3) := by decide +kernel
theorem dX9_rule_8 : decode cX9_rule 8 = .ok (.iconst 1, 1) := by decide +kernel
theorem dX9_rule_9 : decode cX9_rule 9 = .ok (.isub, 1) := by decide +kernel
theorem dX9_rule_10 : decode cX9_rule 10 = .ok (.i2l, 1) := by decide +kernel
theorem dX9_rule_11 : decode cX9_rule 11 = .ok (.invokestatic 82, 3) := by decide +kernel
theorem dX9_rule_14 : decode cX9_rule 14 = .ok (.ifCond .ne 7, 3) := by decide +kernel
theorem dX9_rule_17 : decode cX9_rule 17 = .ok (.iconst 1, 1) := by decide +kernel
theorem dX9_rule_18 : decode cX9_rule 18 = .ok (.goto 20, 3) := by decide +kernel
theorem dX9_rule_21 : decode cX9_rule 21 = .ok (.iload_n 2, 1) := by decide +kernel
theorem dX9_rule_22 : decode cX9_rule 22 = .ok (.i2l, 1) := by decide +kernel
theorem dX9_rule_23 : decode cX9_rule 23 = .ok (.lconst 0, 1) := by decide +kernel
theorem dX9_rule_24 : decode cX9_rule 24 = .ok (.ldc2_w 214, 3) := by decide +kernel
theorem dX9_rule_27 : decode cX9_rule 27 = .ok (.invokestatic 82, 3) := by decide +kernel
theorem dX9_rule_30 : decode cX9_rule 30 = .ok (.ifCond .ne 7, 3) := by decide +kernel
theorem dX9_rule_33 : decode cX9_rule 33 = .ok (.iconst 2, 1) := by decide +kernel
theorem dX9_rule_34 : decode cX9_rule 34 = .ok (.goto 4, 3) := by decide +kernel
theorem dX9_rule_37 : decode cX9_rule 37 = .ok (.iconst 0, 1) := by decide +kernel
theorem dX9_rule_38 : decode cX9_rule 38 = .ok (.invokevirtual 93, 3) := by decide +kernel
theorem dX9_rule_41 : decode cX9_rule 41 = .ok (.ifCond .eq 5, 3) := by decide +kernel
theorem dX9_rule_44 : decode cX9_rule 44 = .ok (.iconst 0, 1) := by decide +kernel
theorem dX9_rule_45 : decode cX9_rule 45 = .ok (.ireturn, 1) := by decide +kernel
theorem dX9_rule_46 : decode cX9_rule 46 = .ok (.aload_n 0, 1) := by decide +kernel
theorem dX9_rule_47 : decode cX9_rule 47 = .ok (.getfield 29, 3) := by decide +kernel
theorem dX9_rule_50 : decode cX9_rule 50 = .ok (.iconst 5, 1) := by decide +kernel
theorem dX9_rule_51 : decode cX9_rule 51 = .ok (.iload_n 1, 1) := by decide +kernel
theorem dX9_rule_52 : decode cX9_rule 52 = .ok (.imul, 1) := by decide +kernel
theorem dX9_rule_53 : decode cX9_rule 53 = .ok (.iload_n 2, 1) := by decide +kernel
theorem dX9_rule_54 : decode cX9_rule 54 = .ok (.iadd, 1) := by decide +kernel
theorem dX9_rule_55 : decode cX9_rule 55 = .ok (.iaload, 1) := by decide +kernel
theorem dX9_rule_56 : decode cX9_rule 56 = .ok (.ireturn, 1) := by decide +kernel
theorem dX9_approvals_0 : decode cX9_approvals 0 = .ok (.aload_n 0, 1) := by decide +kernel
theorem dX9_approvals_1 : decode cX9_approvals 1 = .ok (.aload_n 0, 1) := by decide +kernel
theorem dX9_approvals_2 : decode cX9_approvals 2 = .ok (.iload_n 1, 1) := by decide +kernel
theorem dX9_approvals_3 : decode cX9_approvals 3 = .ok (.invokevirtual 211, 3) := by decide +kernel
theorem dX9_approvals_6 : decode cX9_approvals 6 = .ok (.ifCond .ne 7, 3) := by decide +kernel
theorem dX9_approvals_9 : decode cX9_approvals 9 = .ok (.iconst 1, 1) := by decide +kernel
theorem dX9_approvals_10 : decode cX9_approvals 10 = .ok (.goto 15, 3) := by decide +kernel
theorem dX9_approvals_13 : decode cX9_approvals 13 = .ok (.iload_n 2, 1) := by decide +kernel
theorem dX9_approvals_14 : decode cX9_approvals 14 = .ok (.invokestatic 216, 3) := by decide +kernel
theorem dX9_approvals_17 : decode cX9_approvals 17 = .ok (.ifCond .ne 7, 3) := by decide +kernel
theorem dX9_approvals_20 : decode cX9_approvals 20 = .ok (.iconst 2, 1) := by decide +kernel
theorem dX9_approvals_21 : decode cX9_approvals 21 = .ok (.goto 4, 3) := by decide +kernel
theorem dX9_approvals_24 : decode cX9_approvals 24 = .ok (.iconst 0, 1) := by decide +kernel
theorem dX9_approvals_25 : decode cX9_approvals 25 = .ok (.invokevirtual 93, 3) := by decide +kernel
theorem dX9_approvals_28 : decode cX9_approvals 28 = .ok (.ifCond .eq 5, 3) := by decide +kernel
theorem dX9_approvals_31 : decode cX9_approvals 31 = .ok (.iconst 0, 1) := by decide +kernel
theorem dX9_approvals_32 : decode cX9_approvals 32 = .ok (.ireturn, 1) := by decide +kernel
theorem dX9_approvals_33 : decode cX9_approvals 33 = .ok (.aload_n 0, 1) := by decide +kernel
theorem dX9_approvals_34 : decode cX9_approvals 34 = .ok (.getfield 41, 3) := by decide +kernel
theorem dX9_approvals_37 : decode cX9_approvals 37 = .ok (.iload_n 1, 1) := by decide +kernel
theorem dX9_approvals_38 : decode cX9_approvals 38 = .ok (.invokestatic 119, 3) := by decide +kernel
theorem dX9_approvals_41 : decode cX9_approvals 41 = .ok (.iconst 1, 1) := by decide +kernel
theorem dX9_approvals_42 : decode cX9_approvals 42 = .ok (.iadd, 1) := by decide +kernel
theorem dX9_approvals_43 : decode cX9_approvals 43 = .ok (.iload_n 2, 1) := by decide +kernel
theorem dX9_approvals_44 : decode cX9_approvals 44 = .ok (.iadd, 1) := by decide +kernel
theorem dX9_approvals_45 : decode cX9_approvals 45 = .ok (.iaload, 1) := by decide +kernel
theorem dX9_approvals_46 : decode cX9_approvals 46 = .ok (.ireturn, 1) := by decide +kernel
theorem dX9_quorum_0 : decode cX9_quorum 0 = .ok (.aload_n 0, 1) := by decide +kernel
theorem dX9_quorum_1 : decode cX9_quorum 1 = .ok (.aload_n 0, 1) := by decide +kernel
theorem dX9_quorum_2 : decode cX9_quorum 2 = .ok (.iload_n 1, 1) := by decide +kernel
theorem dX9_quorum_3 : decode cX9_quorum 3 = .ok (.invokevirtual 211, 3) := by decide +kernel
theorem dX9_quorum_6 : decode cX9_quorum 6 = .ok (.ifCond .eq 7, 3) := by decide +kernel
theorem dX9_quorum_9 : decode cX9_quorum 9 = .ok (.iconst 0, 1) := by decide +kernel
theorem dX9_quorum_10 : decode cX9_quorum 10 = .ok (.goto 4, 3) := by decide +kernel
theorem dX9_quorum_13 : decode cX9_quorum 13 = .ok (.iconst 1, 1) := by decide +kernel
theorem dX9_quorum_14 : decode cX9_quorum 14 = .ok (.invokevirtual 93, 3) := by decide +kernel
theorem dX9_quorum_17 : decode cX9_quorum 17 = .ok (.ifCond .eq 7, 3) := by decide +kernel
theorem dX9_quorum_20 : decode cX9_quorum 20 = .ok (.iconst 0, 1) := by decide +kernel
theorem dX9_quorum_21 : decode cX9_quorum 21 = .ok (.goto 12, 3) := by decide +kernel
theorem dX9_quorum_24 : decode cX9_quorum 24 = .ok (.aload_n 0, 1) := by decide +kernel
theorem dX9_quorum_25 : decode cX9_quorum 25 = .ok (.getfield 41, 3) := by decide +kernel
theorem dX9_quorum_28 : decode cX9_quorum 28 = .ok (.iload_n 1, 1) := by decide +kernel
theorem dX9_quorum_29 : decode cX9_quorum 29 = .ok (.invokestatic 119, 3) := by decide +kernel
theorem dX9_quorum_32 : decode cX9_quorum 32 = .ok (.iaload, 1) := by decide +kernel
theorem dX9_quorum_33 : decode cX9_quorum 33 = .ok (.ireturn, 1) := by decide +kernel
theorem dX9_wish_0 : decode cX9_wish 0 = .ok (.aload_n 0, 1) := by decide +kernel
theorem dX9_wish_1 : decode cX9_wish 1 = .ok (.aload_n 0, 1) := by decide +kernel
theorem dX9_wish_2 : decode cX9_wish 2 = .ok (.iload_n 1, 1) := by decide +kernel
theorem dX9_wish_3 : decode cX9_wish 3 = .ok (.invokevirtual 203, 3) := by decide +kernel
theorem dX9_wish_6 : decode cX9_wish 6 = .ok (.ifCond .eq 11, 3) := by decide +kernel
theorem dX9_wish_9 : decode cX9_wish 9 = .ok (.aload_n 0, 1) := by decide +kernel
theorem dX9_wish_10 : decode cX9_wish 10 = .ok (.iload_n 2, 1) := by decide +kernel
theorem dX9_wish_11 : decode cX9_wish 11 = .ok (.invokevirtual 211, 3) := by decide +kernel
theorem dX9_wish_14 : decode cX9_wish 14 = .ok (.ifCond .ne 7, 3) := by decide +kernel
theorem dX9_wish_17 : decode cX9_wish 17 = .ok (.iconst 1, 1) := by decide +kernel
theorem dX9_wish_18 : decode cX9_wish 18 = .ok (.goto 15, 3) := by decide +kernel
theorem dX9_wish_21 : decode cX9_wish 21 = .ok (.iload_n 3, 1) := by decide +kernel
theorem dX9_wish_22 : decode cX9_wish 22 = .ok (.invokestatic 216, 3) := by decide +kernel
theorem dX9_wish_25 : decode cX9_wish 25 = .ok (.ifCond .ne 7, 3) := by decide +kernel
theorem dX9_wish_28 : decode cX9_wish 28 = .ok (.iconst 2, 1) := by decide +kernel
theorem dX9_wish_29 : decode cX9_wish 29 = .ok (.goto 4, 3) := by decide +kernel
theorem dX9_wish_32 : decode cX9_wish 32 = .ok (.iconst 0, 1) := by decide +kernel
theorem dX9_wish_33 : decode cX9_wish 33 = .ok (.invokevirtual 93, 3) := by decide +kernel
theorem dX9_wish_36 : decode cX9_wish 36 = .ok (.ifCond .eq 5, 3) := by decide +kernel
theorem dX9_wish_39 : decode cX9_wish 39 = .ok (.iconst 0, 1) := by decide +kernel
theorem dX9_wish_40 : decode cX9_wish 40 = .ok (.ireturn, 1) := by decide +kernel
theorem dX9_wish_41 : decode cX9_wish 41 = .ok (.aload_n 0, 1) := by decide +kernel
theorem dX9_wish_42 : decode cX9_wish 42 = .ok (.iload_n 1, 1) := by decide +kernel
theorem dX9_wish_43 : decode cX9_wish 43 = .ok (.invokestatic 126, 3) := by decide +kernel
theorem dX9_wish_46 : decode cX9_wish 46 = .ok (.bipush 6, 2) := by decide +kernel
theorem dX9_wish_48 : decode cX9_wish 48 = .ok (.iadd, 1) := by decide +kernel
theorem dX9_wish_49 : decode cX9_wish 49 = .ok (.iload_n 2, 1) := by decide +kernel
theorem dX9_wish_50 : decode cX9_wish 50 = .ok (.iadd, 1) := by decide +kernel
theorem dX9_wish_51 : decode cX9_wish 51 = .ok (.iload_n 3, 1) := by decide +kernel
theorem dX9_wish_52 : decode cX9_wish 52 = .ok (.invokevirtual 219, 3) := by decide +kernel
theorem dX9_wish_55 : decode cX9_wish 55 = .ok (.ireturn, 1) := by decide +kernel
theorem dX9_wishRing_0 : decode cX9_wishRing 0 = .ok (.aload_n 0, 1) := by decide +kernel
theorem dX9_wishRing_1 : decode cX9_wishRing 1 = .ok (.aload_n 0, 1) := by decide +kernel
theorem dX9_wishRing_2 : decode cX9_wishRing 2 = .ok (.iload_n 2, 1) := by decide +kernel
theorem dX9_wishRing_3 : decode cX9_wishRing 3 = .ok (.invokevirtual 211, 3) := by decide +kernel
theorem dX9_wishRing_6 : decode cX9_wishRing 6 = .ok (.ifCond .ne 7, 3) := by decide +kernel
theorem dX9_wishRing_9 : decode cX9_wishRing 9 = .ok (.iconst 1, 1) := by decide +kernel
theorem dX9_wishRing_10 : decode cX9_wishRing 10 = .ok (.goto 27, 3) := by decide +kernel
theorem dX9_wishRing_13 : decode cX9_wishRing 13 = .ok (.iload_n 1, 1) := by decide +kernel
theorem dX9_wishRing_14 : decode cX9_wishRing 14 = .ok (.i2l, 1) := by decide +kernel
theorem dX9_wishRing_15 : decode cX9_wishRing 15 = .ok (.lconst 0, 1) := by decide +kernel
theorem dX9_wishRing_16 : decode cX9_wishRing 16 = .ok (.ldc2_w 222, 3) := by decide +kernel
theorem dX9_wishRing_19 : decode cX9_wishRing 19 = .ok (.invokestatic 82, 3) := by decide +kernel
theorem dX9_wishRing_22 : decode cX9_wishRing 22 = .ok (.ifCond .eq 10, 3) := by decide +kernel
theorem dX9_wishRing_25 : decode cX9_wishRing 25 = .ok (.iload_n 3, 1) := by decide +kernel
theorem dX9_wishRing_26 : decode cX9_wishRing 26 = .ok (.invokestatic 216, 3) := by decide +kernel
theorem dX9_wishRing_29 : decode cX9_wishRing 29 = .ok (.ifCond .ne 7, 3) := by decide +kernel
theorem dX9_wishRing_32 : decode cX9_wishRing 32 = .ok (.iconst 2, 1) := by decide +kernel
theorem dX9_wishRing_33 : decode cX9_wishRing 33 = .ok (.goto 4, 3) := by decide +kernel
theorem dX9_wishRing_36 : decode cX9_wishRing 36 = .ok (.iconst 0, 1) := by decide +kernel
theorem dX9_wishRing_37 : decode cX9_wishRing 37 = .ok (.invokevirtual 93, 3) := by decide +kernel
theorem dX9_wishRing_40 : decode cX9_wishRing 40 = .ok (.ifCond .eq 5, 3) := by decide +kernel
theorem dX9_wishRing_43 : decode cX9_wishRing 43 = .ok (.iconst 0, 1) := by decide +kernel
theorem dX9_wishRing_44 : decode cX9_wishRing 44 = .ok (.ireturn, 1) := by decide +kernel
theorem dX9_wishRing_45 : decode cX9_wishRing 45 = .ok (.aload_n 0, 1) := by decide +kernel
theorem dX9_wishRing_46 : decode cX9_wishRing 46 = .ok (.invokevirtual 79, 3) := by decide +kernel
theorem dX9_wishRing_49 : decode cX9_wishRing 49 = .ok (.iconst 0, 1) := by decide +kernel
theorem dX9_wishRing_50 : decode cX9_wishRing 50 = .ok (.istore 4, 2) := by decide +kernel
theorem dX9_wishRing_52 : decode cX9_wishRing 52 = .ok (.iconst 0, 1) := by decide +kernel
theorem dX9_wishRing_53 : decode cX9_wishRing 53 = .ok (.istore 5, 2) := by decide +kernel
theorem dX9_wishRing_55 : decode cX9_wishRing 55 = .ok (.iload 5, 2) := by decide +kernel
theorem dX9_wishRing_57 : decode cX9_wishRing 57 = .ok (.aload_n 0, 1) := by decide +kernel
theorem dX9_wishRing_58 : decode cX9_wishRing 58 = .ok (.getfield 13, 3) := by decide +kernel
theorem dX9_wishRing_61 : decode cX9_wishRing 61 = .ok (.if_icmp .ge 39, 3) := by decide +kernel
theorem dX9_wishRing_64 : decode cX9_wishRing 64 = .ok (.aload_n 0, 1) := by decide +kernel
theorem dX9_wishRing_65 : decode cX9_wishRing 65 = .ok (.getfield 26, 3) := by decide +kernel
theorem dX9_wishRing_68 : decode cX9_wishRing 68 = .ok (.iload 5, 2) := by decide +kernel
theorem dX9_wishRing_70 : decode cX9_wishRing 70 = .ok (.iaload, 1) := by decide +kernel
theorem dX9_wishRing_71 : decode cX9_wishRing 71 = .ok (.iload_n 1, 1) := by decide +kernel
theorem dX9_wishRing_72 : decode cX9_wishRing 72 = .ok (.if_icmp .ne 22, 3) := by decide +kernel
theorem dX9_wishRing_75 : decode cX9_wishRing 75 = .ok (.aload_n 0, 1) := by decide +kernel
theorem dX9_wishRing_76 : decode cX9_wishRing 76 = .ok (.getfield 41, 3) := by decide +kernel
theorem dX9_wishRing_79 : decode cX9_wishRing 79 = .ok (.iload 5, 2) := by decide +kernel
theorem dX9_wishRing_81 : decode cX9_wishRing 81 = .ok (.invokestatic 126, 3) := by decide +kernel
theorem dX9_wishRing_84 : decode cX9_wishRing 84 = .ok (.bipush 6, 2) := by decide +kernel
theorem dX9_wishRing_86 : decode cX9_wishRing 86 = .ok (.iadd, 1) := by decide +kernel
theorem dX9_wishRing_87 : decode cX9_wishRing 87 = .ok (.iload_n 2, 1) := by decide +kernel
theorem dX9_wishRing_88 : decode cX9_wishRing 88 = .ok (.iadd, 1) := by decide +kernel
theorem dX9_wishRing_89 : decode cX9_wishRing 89 = .ok (.iload_n 3, 1) := by decide +kernel
theorem dX9_wishRing_90 : decode cX9_wishRing 90 = .ok (.iastore, 1) := by decide +kernel
theorem dX9_wishRing_91 : decode cX9_wishRing 91 = .ok (.iinc 4 1, 3) := by decide +kernel
theorem dX9_wishRing_94 : decode cX9_wishRing 94 = .ok (.iinc 5 1, 3) := by decide +kernel
theorem dX9_wishRing_97 : decode cX9_wishRing 97 = .ok (.goto (-42), 3) := by decide +kernel
theorem dX9_wishRing_100 : decode cX9_wishRing 100 = .ok (.iload 4, 2) := by decide +kernel
theorem dX9_wishRing_102 : decode cX9_wishRing 102 = .ok (.ireturn, 1) := by decide +kernel
theorem dX9_drift_0 : decode cX9_drift 0 = .ok (.aload_n 0, 1) := by decide +kernel
theorem dX9_drift_1 : decode cX9_drift 1 = .ok (.aload_n 0, 1) := by decide +kernel
theorem dX9_drift_2 : decode cX9_drift 2 = .ok (.iload_n 1, 1) := by decide +kernel
theorem dX9_drift_3 : decode cX9_drift 3 = .ok (.invokevirtual 203, 3) := by decide +kernel
theorem dX9_drift_6 : decode cX9_drift 6 = .ok (.ifCond .eq 11, 3) := by decide +kernel
theorem dX9_drift_9 : decode cX9_drift 9 = .ok (.aload_n 0, 1) := by decide +kernel
theorem dX9_drift_10 : decode cX9_drift 10 = .ok (.iload_n 2, 1) := by decide +kernel
theorem dX9_drift_11 : decode cX9_drift 11 = .ok (.invokevirtual 211, 3) := by decide +kernel
theorem dX9_drift_14 : decode cX9_drift 14 = .ok (.ifCond .ne 7, 3) := by decide +kernel
theorem dX9_drift_17 : decode cX9_drift 17 = .ok (.iconst 1, 1) := by decide +kernel
theorem dX9_drift_18 : decode cX9_drift 18 = .ok (.goto 15, 3) := by decide +kernel
theorem dX9_drift_21 : decode cX9_drift 21 = .ok (.iload_n 3, 1) := by decide +kernel
theorem dX9_drift_22 : decode cX9_drift 22 = .ok (.invokestatic 216, 3) := by decide +kernel
theorem dX9_drift_25 : decode cX9_drift 25 = .ok (.ifCond .ne 7, 3) := by decide +kernel
theorem dX9_drift_28 : decode cX9_drift 28 = .ok (.iconst 2, 1) := by decide +kernel
theorem dX9_drift_29 : decode cX9_drift 29 = .ok (.goto 4, 3) := by decide +kernel
theorem dX9_drift_32 : decode cX9_drift 32 = .ok (.iconst 0, 1) := by decide +kernel
theorem dX9_drift_33 : decode cX9_drift 33 = .ok (.invokevirtual 93, 3) := by decide +kernel
theorem dX9_drift_36 : decode cX9_drift 36 = .ok (.ifCond .eq 5, 3) := by decide +kernel
theorem dX9_drift_39 : decode cX9_drift 39 = .ok (.iconst 0, 1) := by decide +kernel
theorem dX9_drift_40 : decode cX9_drift 40 = .ok (.ireturn, 1) := by decide +kernel
theorem dX9_drift_41 : decode cX9_drift 41 = .ok (.aload_n 0, 1) := by decide +kernel
theorem dX9_drift_42 : decode cX9_drift 42 = .ok (.iload_n 1, 1) := by decide +kernel
theorem dX9_drift_43 : decode cX9_drift 43 = .ok (.invokestatic 126, 3) := by decide +kernel
theorem dX9_drift_46 : decode cX9_drift 46 = .ok (.iload_n 2, 1) := by decide +kernel
theorem dX9_drift_47 : decode cX9_drift 47 = .ok (.iadd, 1) := by decide +kernel
theorem dX9_drift_48 : decode cX9_drift 48 = .ok (.iload_n 3, 1) := by decide +kernel
theorem dX9_drift_49 : decode cX9_drift 49 = .ok (.invokevirtual 219, 3) := by decide +kernel
theorem dX9_drift_52 : decode cX9_drift 52 = .ok (.ireturn, 1) := by decide +kernel
theorem dX9_approve_0 : decode cX9_approve 0 = .ok (.aload_n 0, 1) := by decide +kernel
theorem dX9_approve_1 : decode cX9_approve 1 = .ok (.iload_n 1, 1) := by decide +kernel
theorem dX9_approve_2 : decode cX9_approve 2 = .ok (.invokevirtual 211, 3) := by decide +kernel
theorem dX9_approve_5 : decode cX9_approve 5 = .ok (.ifCond .eq 19, 3) := by decide +kernel
theorem dX9_approve_8 : decode cX9_approve 8 = .ok (.iload_n 3, 1) := by decide +kernel
theorem dX9_approve_9 : decode cX9_approve 9 = .ok (.i2l, 1) := by decide +kernel
theorem dX9_approve_10 : decode cX9_approve 10 = .ok (.lconst 0, 1) := by decide +kernel
theorem dX9_approve_11 : decode cX9_approve 11 = .ok (.ldc2_w 214, 3) := by decide +kernel
theorem dX9_approve_14 : decode cX9_approve 14 = .ok (.invokestatic 82, 3) := by decide +kernel
theorem dX9_approve_17 : decode cX9_approve 17 = .ok (.ifCond .eq 7, 3) := by decide +kernel
theorem dX9_approve_20 : decode cX9_approve 20 = .ok (.iconst 1, 1) := by decide +kernel
theorem dX9_approve_21 : decode cX9_approve 21 = .ok (.goto 4, 3) := by decide +kernel
theorem dX9_approve_24 : decode cX9_approve 24 = .ok (.iconst 0, 1) := by decide +kernel
theorem dX9_approve_25 : decode cX9_approve 25 = .ok (.istore 4, 2) := by decide +kernel
theorem dX9_approve_27 : decode cX9_approve 27 = .ok (.aload_n 0, 1) := by decide +kernel
theorem dX9_approve_28 : decode cX9_approve 28 = .ok (.iload 4, 2) := by decide +kernel
theorem dX9_approve_30 : decode cX9_approve 30 = .ok (.ifCond .ne 7, 3) := by decide +kernel
theorem dX9_approve_33 : decode cX9_approve 33 = .ok (.iconst 1, 1) := by decide +kernel
theorem dX9_approve_34 : decode cX9_approve 34 = .ok (.goto 40, 3) := by decide +kernel
theorem dX9_approve_37 : decode cX9_approve 37 = .ok (.iload_n 2, 1) := by decide +kernel
theorem dX9_approve_38 : decode cX9_approve 38 = .ok (.invokestatic 216, 3) := by decide +kernel
theorem dX9_approve_41 : decode cX9_approve 41 = .ok (.ifCond .ne 7, 3) := by decide +kernel
theorem dX9_approve_44 : decode cX9_approve 44 = .ok (.iconst 2, 1) := by decide +kernel
theorem dX9_approve_45 : decode cX9_approve 45 = .ok (.goto 29, 3) := by decide +kernel
theorem dX9_approve_48 : decode cX9_approve 48 = .ok (.aload_n 0, 1) := by decide +kernel
theorem dX9_approve_49 : decode cX9_approve 49 = .ok (.getfield 41, 3) := by decide +kernel
theorem dX9_approve_52 : decode cX9_approve 52 = .ok (.iload_n 1, 1) := by decide +kernel
theorem dX9_approve_53 : decode cX9_approve 53 = .ok (.invokestatic 119, 3) := by decide +kernel
theorem dX9_approve_56 : decode cX9_approve 56 = .ok (.iconst 1, 1) := by decide +kernel
theorem dX9_approve_57 : decode cX9_approve 57 = .ok (.iadd, 1) := by decide +kernel
theorem dX9_approve_58 : decode cX9_approve 58 = .ok (.iload_n 2, 1) := by decide +kernel
theorem dX9_approve_59 : decode cX9_approve 59 = .ok (.iadd, 1) := by decide +kernel
theorem dX9_approve_60 : decode cX9_approve 60 = .ok (.iaload, 1) := by decide +kernel
theorem dX9_approve_61 : decode cX9_approve 61 = .ok (.iload_n 3, 1) := by decide +kernel
theorem dX9_approve_62 : decode cX9_approve 62 = .ok (.ishr, 1) := by decide +kernel
theorem dX9_approve_63 : decode cX9_approve 63 = .ok (.iconst 1, 1) := by decide +kernel
theorem dX9_approve_64 : decode cX9_approve 64 = .ok (.iand, 1) := by decide +kernel
theorem dX9_approve_65 : decode cX9_approve 65 = .ok (.iconst 1, 1) := by decide +kernel
theorem dX9_approve_66 : decode cX9_approve 66 = .ok (.if_icmp .ne 7, 3) := by decide +kernel
theorem dX9_approve_69 : decode cX9_approve 69 = .ok (.iconst 3, 1) := by decide +kernel
theorem dX9_approve_70 : decode cX9_approve 70 = .ok (.goto 4, 3) := by decide +kernel
theorem dX9_approve_73 : decode cX9_approve 73 = .ok (.iconst 0, 1) := by decide +kernel
theorem dX9_approve_74 : decode cX9_approve 74 = .ok (.invokevirtual 93, 3) := by decide +kernel
theorem dX9_approve_77 : decode cX9_approve 77 = .ok (.ifCond .eq 5, 3) := by decide +kernel
theorem dX9_approve_80 : decode cX9_approve 80 = .ok (.iconst 0, 1) := by decide +kernel
theorem dX9_approve_81 : decode cX9_approve 81 = .ok (.ireturn, 1) := by decide +kernel
theorem dX9_approve_82 : decode cX9_approve 82 = .ok (.aload_n 0, 1) := by decide +kernel
theorem dX9_approve_83 : decode cX9_approve 83 = .ok (.invokevirtual 79, 3) := by decide +kernel
theorem dX9_approve_86 : decode cX9_approve 86 = .ok (.aload_n 0, 1) := by decide +kernel
theorem dX9_approve_87 : decode cX9_approve 87 = .ok (.getfield 41, 3) := by decide +kernel
theorem dX9_approve_90 : decode cX9_approve 90 = .ok (.iload_n 1, 1) := by decide +kernel
theorem dX9_approve_91 : decode cX9_approve 91 = .ok (.invokestatic 119, 3) := by decide +kernel
theorem dX9_approve_94 : decode cX9_approve 94 = .ok (.iconst 1, 1) := by decide +kernel
theorem dX9_approve_95 : decode cX9_approve 95 = .ok (.iadd, 1) := by decide +kernel
theorem dX9_approve_96 : decode cX9_approve 96 = .ok (.iload_n 2, 1) := by decide +kernel
theorem dX9_approve_97 : decode cX9_approve 97 = .ok (.iadd, 1) := by decide +kernel
theorem dX9_approve_98 : decode cX9_approve 98 = .ok (.dup2, 1) := by decide +kernel
theorem dX9_approve_99 : decode cX9_approve 99 = .ok (.iaload, 1) := by decide +kernel
theorem dX9_approve_100 : decode cX9_approve 100 = .ok (.iconst 1, 1) := by decide +kernel
theorem dX9_approve_101 : decode cX9_approve 101 = .ok (.iload_n 3, 1) := by decide +kernel
theorem dX9_approve_102 : decode cX9_approve 102 = .ok (.ishl, 1) := by decide +kernel
theorem dX9_approve_103 : decode cX9_approve 103 = .ok (.ior, 1) := by decide +kernel
theorem dX9_approve_104 : decode cX9_approve 104 = .ok (.iastore, 1) := by decide +kernel
theorem dX9_approve_105 : decode cX9_approve 105 = .ok (.aload_n 0, 1) := by decide +kernel
theorem dX9_approve_106 : decode cX9_approve 106 = .ok (.getfield 41, 3) := by decide +kernel
theorem dX9_approve_109 : decode cX9_approve 109 = .ok (.iload_n 1, 1) := by decide +kernel
theorem dX9_approve_110 : decode cX9_approve 110 = .ok (.invokestatic 119, 3) := by decide +kernel
theorem dX9_approve_113 : decode cX9_approve 113 = .ok (.iconst 1, 1) := by decide +kernel
theorem dX9_approve_114 : decode cX9_approve 114 = .ok (.iadd, 1) := by decide +kernel
theorem dX9_approve_115 : decode cX9_approve 115 = .ok (.iload_n 2, 1) := by decide +kernel
end
section
theorem dX9_approve_116 : decode cX9_approve 116 = .ok (.iadd, 1) := by decide +kernel
theorem dX9_approve_117 : decode cX9_approve 117 = .ok (.iaload, 1) := by decide +kernel
theorem dX9_approve_118 : decode cX9_approve 118 = .ok (.invokestatic 167, 3) := by decide +kernel
theorem dX9_approve_121 : decode cX9_approve 121 = .ok (.ireturn, 1) := by decide +kernel
theorem dX9_dismiss_0 : decode cX9_dismiss 0 = .ok (.aload_n 0, 1) := by decide +kernel
theorem dX9_dismiss_1 : decode cX9_dismiss 1 = .ok (.iload_n 1, 1) := by decide +kernel
theorem dX9_dismiss_2 : decode cX9_dismiss 2 = .ok (.i2l, 1) := by decide +kernel
theorem dX9_dismiss_3 : decode cX9_dismiss 3 = .ok (.lconst 0, 1) := by decide +kernel
theorem dX9_dismiss_4 : decode cX9_dismiss 4 = .ok (.ldc2_w 214, 3) := by decide +kernel
theorem dX9_dismiss_7 : decode cX9_dismiss 7 = .ok (.invokestatic 82, 3) := by decide +kernel
theorem dX9_dismiss_10 : decode cX9_dismiss 10 = .ok (.ifCond .eq 7, 3) := by decide +kernel
theorem dX9_dismiss_13 : decode cX9_dismiss 13 = .ok (.iconst 0, 1) := by decide +kernel
theorem dX9_dismiss_14 : decode cX9_dismiss 14 = .ok (.goto 4, 3) := by decide +kernel
theorem dX9_dismiss_17 : decode cX9_dismiss 17 = .ok (.iconst 1, 1) := by decide +kernel
theorem dX9_dismiss_18 : decode cX9_dismiss 18 = .ok (.invokevirtual 93, 3) := by decide +kernel
theorem dX9_dismiss_21 : decode cX9_dismiss 21 = .ok (.ifCond .eq 5, 3) := by decide +kernel
theorem dX9_dismiss_24 : decode cX9_dismiss 24 = .ok (.iconst 0, 1) := by decide +kernel
theorem dX9_dismiss_25 : decode cX9_dismiss 25 = .ok (.ireturn, 1) := by decide +kernel
theorem dX9_dismiss_26 : decode cX9_dismiss 26 = .ok (.aload_n 0, 1) := by decide +kernel
theorem dX9_dismiss_27 : decode cX9_dismiss 27 = .ok (.invokevirtual 79, 3) := by decide +kernel
theorem dX9_dismiss_30 : decode cX9_dismiss 30 = .ok (.iconst 0, 1) := by decide +kernel
theorem dX9_dismiss_31 : decode cX9_dismiss 31 = .ok (.istore_n 2, 1) := by decide +kernel
theorem dX9_dismiss_32 : decode cX9_dismiss 32 = .ok (.iconst 0, 1) := by decide +kernel
theorem dX9_dismiss_33 : decode cX9_dismiss 33 = .ok (.istore_n 3, 1) := by decide +kernel
theorem dX9_dismiss_34 : decode cX9_dismiss 34 = .ok (.iload_n 3, 1) := by decide +kernel
theorem dX9_dismiss_35 : decode cX9_dismiss 35 = .ok (.aload_n 0, 1) := by decide +kernel
theorem dX9_dismiss_36 : decode cX9_dismiss 36 = .ok (.getfield 17, 3) := by decide +kernel
theorem dX9_dismiss_39 : decode cX9_dismiss 39 = .ok (.if_icmp .ge 67, 3) := by decide +kernel
theorem dX9_dismiss_42 : decode cX9_dismiss 42 = .ok (.iconst 0, 1) := by decide +kernel
theorem dX9_dismiss_43 : decode cX9_dismiss 43 = .ok (.istore 4, 2) := by decide +kernel
theorem dX9_dismiss_45 : decode cX9_dismiss 45 = .ok (.iload 4, 2) := by decide +kernel
theorem dX9_dismiss_47 : decode cX9_dismiss 47 = .ok (.iconst 4, 1) := by decide +kernel
theorem dX9_dismiss_48 : decode cX9_dismiss 48 = .ok (.if_icmp .ge 52, 3) := by decide +kernel
theorem dX9_dismiss_51 : decode cX9_dismiss 51 = .ok (.iload_n 2, 1) := by decide +kernel
theorem dX9_dismiss_52 : decode cX9_dismiss 52 = .ok (.aload_n 0, 1) := by decide +kernel
theorem dX9_dismiss_53 : decode cX9_dismiss 53 = .ok (.getfield 41, 3) := by decide +kernel
theorem dX9_dismiss_56 : decode cX9_dismiss 56 = .ok (.iload_n 3, 1) := by decide +kernel
theorem dX9_dismiss_57 : decode cX9_dismiss 57 = .ok (.invokestatic 119, 3) := by decide +kernel
theorem dX9_dismiss_60 : decode cX9_dismiss 60 = .ok (.iconst 1, 1) := by decide +kernel
theorem dX9_dismiss_61 : decode cX9_dismiss 61 = .ok (.iadd, 1) := by decide +kernel
theorem dX9_dismiss_62 : decode cX9_dismiss 62 = .ok (.iload 4, 2) := by decide +kernel
theorem dX9_dismiss_64 : decode cX9_dismiss 64 = .ok (.iadd, 1) := by decide +kernel
theorem dX9_dismiss_65 : decode cX9_dismiss 65 = .ok (.iaload, 1) := by decide +kernel
theorem dX9_dismiss_66 : decode cX9_dismiss 66 = .ok (.iload_n 1, 1) := by decide +kernel
theorem dX9_dismiss_67 : decode cX9_dismiss 67 = .ok (.ishr, 1) := by decide +kernel
theorem dX9_dismiss_68 : decode cX9_dismiss 68 = .ok (.iconst 1, 1) := by decide +kernel
theorem dX9_dismiss_69 : decode cX9_dismiss 69 = .ok (.iand, 1) := by decide +kernel
theorem dX9_dismiss_70 : decode cX9_dismiss 70 = .ok (.iadd, 1) := by decide +kernel
theorem dX9_dismiss_71 : decode cX9_dismiss 71 = .ok (.istore_n 2, 1) := by decide +kernel
theorem dX9_dismiss_72 : decode cX9_dismiss 72 = .ok (.aload_n 0, 1) := by decide +kernel
theorem dX9_dismiss_73 : decode cX9_dismiss 73 = .ok (.getfield 41, 3) := by decide +kernel
theorem dX9_dismiss_76 : decode cX9_dismiss 76 = .ok (.iload_n 3, 1) := by decide +kernel
theorem dX9_dismiss_77 : decode cX9_dismiss 77 = .ok (.invokestatic 119, 3) := by decide +kernel
theorem dX9_dismiss_80 : decode cX9_dismiss 80 = .ok (.iconst 1, 1) := by decide +kernel
theorem dX9_dismiss_81 : decode cX9_dismiss 81 = .ok (.iadd, 1) := by decide +kernel
theorem dX9_dismiss_82 : decode cX9_dismiss 82 = .ok (.iload 4, 2) := by decide +kernel
theorem dX9_dismiss_84 : decode cX9_dismiss 84 = .ok (.iadd, 1) := by decide +kernel
theorem dX9_dismiss_85 : decode cX9_dismiss 85 = .ok (.dup2, 1) := by decide +kernel
theorem dX9_dismiss_86 : decode cX9_dismiss 86 = .ok (.iaload, 1) := by decide +kernel
theorem dX9_dismiss_87 : decode cX9_dismiss 87 = .ok (.iconst 1, 1) := by decide +kernel
theorem dX9_dismiss_88 : decode cX9_dismiss 88 = .ok (.iload_n 1, 1) := by decide +kernel
theorem dX9_dismiss_89 : decode cX9_dismiss 89 = .ok (.ishl, 1) := by decide +kernel
theorem dX9_dismiss_90 : decode cX9_dismiss 90 = .ok (.iconst (-1), 1) := by decide +kernel
theorem dX9_dismiss_91 : decode cX9_dismiss 91 = .ok (.ixor, 1) := by decide +kernel
theorem dX9_dismiss_92 : decode cX9_dismiss 92 = .ok (.iand, 1) := by decide +kernel
theorem dX9_dismiss_93 : decode cX9_dismiss 93 = .ok (.iastore, 1) := by decide +kernel
theorem dX9_dismiss_94 : decode cX9_dismiss 94 = .ok (.iinc 4 1, 3) := by decide +kernel
theorem dX9_dismiss_97 : decode cX9_dismiss 97 = .ok (.goto (-52), 3) := by decide +kernel
theorem dX9_dismiss_100 : decode cX9_dismiss 100 = .ok (.iinc 3 1, 3) := by decide +kernel
theorem dX9_dismiss_103 : decode cX9_dismiss 103 = .ok (.goto (-69), 3) := by decide +kernel
theorem dX9_dismiss_106 : decode cX9_dismiss 106 = .ok (.iload_n 2, 1) := by decide +kernel
theorem dX9_dismiss_107 : decode cX9_dismiss 107 = .ok (.ireturn, 1) := by decide +kernel
theorem dX9_setQuorum_0 : decode cX9_setQuorum 0 = .ok (.aload_n 0, 1) := by decide +kernel
theorem dX9_setQuorum_1 : decode cX9_setQuorum 1 = .ok (.aload_n 0, 1) := by decide +kernel
theorem dX9_setQuorum_2 : decode cX9_setQuorum 2 = .ok (.iload_n 1, 1) := by decide +kernel
theorem dX9_setQuorum_3 : decode cX9_setQuorum 3 = .ok (.invokevirtual 211, 3) := by decide +kernel
theorem dX9_setQuorum_6 : decode cX9_setQuorum 6 = .ok (.ifCond .ne 7, 3) := by decide +kernel
theorem dX9_setQuorum_9 : decode cX9_setQuorum 9 = .ok (.iconst 1, 1) := by decide +kernel
theorem dX9_setQuorum_10 : decode cX9_setQuorum 10 = .ok (.goto 20, 3) := by decide +kernel
theorem dX9_setQuorum_13 : decode cX9_setQuorum 13 = .ok (.iload_n 2, 1) := by decide +kernel
theorem dX9_setQuorum_14 : decode cX9_setQuorum 14 = .ok (.i2l, 1) := by decide +kernel
theorem dX9_setQuorum_15 : decode cX9_setQuorum 15 = .ok (.lconst 0, 1) := by decide +kernel
theorem dX9_setQuorum_16 : decode cX9_setQuorum 16 = .ok (.ldc2_w 224, 3) := by decide +kernel
theorem dX9_setQuorum_19 : decode cX9_setQuorum 19 = .ok (.invokestatic 82, 3) := by decide +kernel
theorem dX9_setQuorum_22 : decode cX9_setQuorum 22 = .ok (.ifCond .ne 7, 3) := by decide +kernel
theorem dX9_setQuorum_25 : decode cX9_setQuorum 25 = .ok (.iconst 2, 1) := by decide +kernel
theorem dX9_setQuorum_26 : decode cX9_setQuorum 26 = .ok (.goto 4, 3) := by decide +kernel
theorem dX9_setQuorum_29 : decode cX9_setQuorum 29 = .ok (.iconst 0, 1) := by decide +kernel
theorem dX9_setQuorum_30 : decode cX9_setQuorum 30 = .ok (.invokevirtual 93, 3) := by decide +kernel
theorem dX9_setQuorum_33 : decode cX9_setQuorum 33 = .ok (.ifCond .eq 5, 3) := by decide +kernel
theorem dX9_setQuorum_36 : decode cX9_setQuorum 36 = .ok (.iconst 0, 1) := by decide +kernel
theorem dX9_setQuorum_37 : decode cX9_setQuorum 37 = .ok (.ireturn, 1) := by decide +kernel
theorem dX9_setQuorum_38 : decode cX9_setQuorum 38 = .ok (.aload_n 0, 1) := by decide +kernel
theorem dX9_setQuorum_39 : decode cX9_setQuorum 39 = .ok (.iload_n 1, 1) := by decide +kernel
theorem dX9_setQuorum_40 : decode cX9_setQuorum 40 = .ok (.invokestatic 119, 3) := by decide +kernel
theorem dX9_setQuorum_43 : decode cX9_setQuorum 43 = .ok (.iload_n 2, 1) := by decide +kernel
theorem dX9_setQuorum_44 : decode cX9_setQuorum 44 = .ok (.invokevirtual 219, 3) := by decide +kernel
theorem dX9_setQuorum_47 : decode cX9_setQuorum 47 = .ok (.ireturn, 1) := by decide +kernel
theorem dX9_setFaults_0 : decode cX9_setFaults 0 = .ok (.aload_n 0, 1) := by decide +kernel
theorem dX9_setFaults_1 : decode cX9_setFaults 1 = .ok (.aload_n 0, 1) := by decide +kernel
theorem dX9_setFaults_2 : decode cX9_setFaults 2 = .ok (.iload_n 1, 1) := by decide +kernel
theorem dX9_setFaults_3 : decode cX9_setFaults 3 = .ok (.invokevirtual 203, 3) := by decide +kernel
theorem dX9_setFaults_6 : decode cX9_setFaults 6 = .ok (.ifCond .ne 7, 3) := by decide +kernel
theorem dX9_setFaults_9 : decode cX9_setFaults 9 = .ok (.iconst 1, 1) := by decide +kernel
theorem dX9_setFaults_10 : decode cX9_setFaults 10 = .ok (.goto 20, 3) := by decide +kernel
theorem dX9_setFaults_13 : decode cX9_setFaults 13 = .ok (.iload_n 2, 1) := by decide +kernel
theorem dX9_setFaults_14 : decode cX9_setFaults 14 = .ok (.i2l, 1) := by decide +kernel
theorem dX9_setFaults_15 : decode cX9_setFaults 15 = .ok (.lconst 0, 1) := by decide +kernel
theorem dX9_setFaults_16 : decode cX9_setFaults 16 = .ok (.ldc2_w 226, 3) := by decide +kernel
theorem dX9_setFaults_19 : decode cX9_setFaults 19 = .ok (.invokestatic 82, 3) := by decide +kernel
theorem dX9_setFaults_22 : decode cX9_setFaults 22 = .ok (.ifCond .ne 7, 3) := by decide +kernel
theorem dX9_setFaults_25 : decode cX9_setFaults 25 = .ok (.iconst 2, 1) := by decide +kernel
theorem dX9_setFaults_26 : decode cX9_setFaults 26 = .ok (.goto 4, 3) := by decide +kernel
theorem dX9_setFaults_29 : decode cX9_setFaults 29 = .ok (.iconst 0, 1) := by decide +kernel
theorem dX9_setFaults_30 : decode cX9_setFaults 30 = .ok (.invokevirtual 93, 3) := by decide +kernel
theorem dX9_setFaults_33 : decode cX9_setFaults 33 = .ok (.ifCond .eq 5, 3) := by decide +kernel
theorem dX9_setFaults_36 : decode cX9_setFaults 36 = .ok (.iconst 0, 1) := by decide +kernel
theorem dX9_setFaults_37 : decode cX9_setFaults 37 = .ok (.ireturn, 1) := by decide +kernel
theorem dX9_setFaults_38 : decode cX9_setFaults 38 = .ok (.aload_n 0, 1) := by decide +kernel
theorem dX9_setFaults_39 : decode cX9_setFaults 39 = .ok (.iload_n 1, 1) := by decide +kernel
theorem dX9_setFaults_40 : decode cX9_setFaults 40 = .ok (.invokestatic 126, 3) := by decide +kernel
theorem dX9_setFaults_43 : decode cX9_setFaults 43 = .ok (.bipush 12, 2) := by decide +kernel
theorem dX9_setFaults_45 : decode cX9_setFaults 45 = .ok (.iadd, 1) := by decide +kernel
theorem dX9_setFaults_46 : decode cX9_setFaults 46 = .ok (.iload_n 2, 1) := by decide +kernel
theorem dX9_setFaults_47 : decode cX9_setFaults 47 = .ok (.invokevirtual 219, 3) := by decide +kernel
theorem dX9_setFaults_50 : decode cX9_setFaults 50 = .ok (.ireturn, 1) := by decide +kernel
theorem dX9_pardon_0 : decode cX9_pardon 0 = .ok (.aload_n 0, 1) := by decide +kernel
theorem dX9_pardon_1 : decode cX9_pardon 1 = .ok (.aload_n 0, 1) := by decide +kernel
theorem dX9_pardon_2 : decode cX9_pardon 2 = .ok (.iload_n 1, 1) := by decide +kernel
theorem dX9_pardon_3 : decode cX9_pardon 3 = .ok (.invokevirtual 203, 3) := by decide +kernel
theorem dX9_pardon_6 : decode cX9_pardon 6 = .ok (.ifCond .ne 7, 3) := by decide +kernel
theorem dX9_pardon_9 : decode cX9_pardon 9 = .ok (.iconst 1, 1) := by decide +kernel
theorem dX9_pardon_10 : decode cX9_pardon 10 = .ok (.goto 19, 3) := by decide +kernel
theorem dX9_pardon_13 : decode cX9_pardon 13 = .ok (.aload_n 0, 1) := by decide +kernel
theorem dX9_pardon_14 : decode cX9_pardon 14 = .ok (.getfield 41, 3) := by decide +kernel
theorem dX9_pardon_17 : decode cX9_pardon 17 = .ok (.iload_n 1, 1) := by decide +kernel
theorem dX9_pardon_18 : decode cX9_pardon 18 = .ok (.invokestatic 170, 3) := by decide +kernel
theorem dX9_pardon_21 : decode cX9_pardon 21 = .ok (.ifCond .ne 7, 3) := by decide +kernel
theorem dX9_pardon_24 : decode cX9_pardon 24 = .ok (.iconst 2, 1) := by decide +kernel
theorem dX9_pardon_25 : decode cX9_pardon 25 = .ok (.goto 4, 3) := by decide +kernel
theorem dX9_pardon_28 : decode cX9_pardon 28 = .ok (.iconst 0, 1) := by decide +kernel
theorem dX9_pardon_29 : decode cX9_pardon 29 = .ok (.invokevirtual 93, 3) := by decide +kernel
theorem dX9_pardon_32 : decode cX9_pardon 32 = .ok (.ifCond .eq 5, 3) := by decide +kernel
theorem dX9_pardon_35 : decode cX9_pardon 35 = .ok (.iconst 0, 1) := by decide +kernel
theorem dX9_pardon_36 : decode cX9_pardon 36 = .ok (.ireturn, 1) := by decide +kernel
theorem dX9_pardon_37 : decode cX9_pardon 37 = .ok (.aload_n 0, 1) := by decide +kernel
theorem dX9_pardon_38 : decode cX9_pardon 38 = .ok (.invokevirtual 79, 3) := by decide +kernel
theorem dX9_pardon_41 : decode cX9_pardon 41 = .ok (.aload_n 0, 1) := by decide +kernel
theorem dX9_pardon_42 : decode cX9_pardon 42 = .ok (.getfield 41, 3) := by decide +kernel
theorem dX9_pardon_45 : decode cX9_pardon 45 = .ok (.iload_n 1, 1) := by decide +kernel
theorem dX9_pardon_46 : decode cX9_pardon 46 = .ok (.invokestatic 126, 3) := by decide +kernel
theorem dX9_pardon_49 : decode cX9_pardon 49 = .ok (.bipush 14, 2) := by decide +kernel
theorem dX9_pardon_51 : decode cX9_pardon 51 = .ok (.iadd, 1) := by decide +kernel
theorem dX9_pardon_52 : decode cX9_pardon 52 = .ok (.iaload, 1) := by decide +kernel
theorem dX9_pardon_53 : decode cX9_pardon 53 = .ok (.aload_n 0, 1) := by decide +kernel
theorem dX9_pardon_54 : decode cX9_pardon 54 = .ok (.getfield 41, 3) := by decide +kernel
theorem dX9_pardon_57 : decode cX9_pardon 57 = .ok (.iconst 0, 1) := by decide +kernel
theorem dX9_pardon_58 : decode cX9_pardon 58 = .ok (.iaload, 1) := by decide +kernel
theorem dX9_pardon_59 : decode cX9_pardon 59 = .ok (.isub, 1) := by decide +kernel
theorem dX9_pardon_60 : decode cX9_pardon 60 = .ok (.istore_n 2, 1) := by decide +kernel
theorem dX9_pardon_61 : decode cX9_pardon 61 = .ok (.aload_n 0, 1) := by decide +kernel
theorem dX9_pardon_62 : decode cX9_pardon 62 = .ok (.getfield 41, 3) := by decide +kernel
theorem dX9_pardon_65 : decode cX9_pardon 65 = .ok (.iload_n 1, 1) := by decide +kernel
theorem dX9_pardon_66 : decode cX9_pardon 66 = .ok (.invokestatic 126, 3) := by decide +kernel
theorem dX9_pardon_69 : decode cX9_pardon 69 = .ok (.bipush 14, 2) := by decide +kernel
theorem dX9_pardon_71 : decode cX9_pardon 71 = .ok (.iadd, 1) := by decide +kernel
theorem dX9_pardon_72 : decode cX9_pardon 72 = .ok (.aload_n 0, 1) := by decide +kernel
theorem dX9_pardon_73 : decode cX9_pardon 73 = .ok (.getfield 41, 3) := by decide +kernel
theorem dX9_pardon_76 : decode cX9_pardon 76 = .ok (.iconst 0, 1) := by decide +kernel
theorem dX9_pardon_77 : decode cX9_pardon 77 = .ok (.iaload, 1) := by decide +kernel
theorem dX9_pardon_78 : decode cX9_pardon 78 = .ok (.iastore, 1) := by decide +kernel
theorem dX9_pardon_79 : decode cX9_pardon 79 = .ok (.aload_n 0, 1) := by decide +kernel
theorem dX9_pardon_80 : decode cX9_pardon 80 = .ok (.getfield 41, 3) := by decide +kernel
theorem dX9_pardon_83 : decode cX9_pardon 83 = .ok (.iload_n 1, 1) := by decide +kernel
theorem dX9_pardon_84 : decode cX9_pardon 84 = .ok (.invokestatic 126, 3) := by decide +kernel
theorem dX9_pardon_87 : decode cX9_pardon 87 = .ok (.bipush 13, 2) := by decide +kernel
theorem dX9_pardon_89 : decode cX9_pardon 89 = .ok (.iadd, 1) := by decide +kernel
theorem dX9_pardon_90 : decode cX9_pardon 90 = .ok (.iconst 0, 1) := by decide +kernel
theorem dX9_pardon_91 : decode cX9_pardon 91 = .ok (.iastore, 1) := by decide +kernel
theorem dX9_pardon_92 : decode cX9_pardon 92 = .ok (.iload_n 2, 1) := by decide +kernel
theorem dX9_pardon_93 : decode cX9_pardon 93 = .ok (.ireturn, 1) := by decide +kernel
theorem dX9_tick_0 : decode cX9_tick 0 = .ok (.aload_n 0, 1) := by decide +kernel
theorem dX9_tick_1 : decode cX9_tick 1 = .ok (.iload_n 1, 1) := by decide +kernel
theorem dX9_tick_2 : decode cX9_tick 2 = .ok (.i2l, 1) := by decide +kernel
theorem dX9_tick_3 : decode cX9_tick 3 = .ok (.lconst 1, 1) := by decide +kernel
theorem dX9_tick_4 : decode cX9_tick 4 = .ok (.ldc2_w 228, 3) := by decide +kernel
theorem dX9_tick_7 : decode cX9_tick 7 = .ok (.invokestatic 82, 3) := by decide +kernel
theorem dX9_tick_10 : decode cX9_tick 10 = .ok (.ifCond .eq 7, 3) := by decide +kernel
theorem dX9_tick_13 : decode cX9_tick 13 = .ok (.iconst 0, 1) := by decide +kernel
theorem dX9_tick_14 : decode cX9_tick 14 = .ok (.goto 4, 3) := by decide +kernel
theorem dX9_tick_17 : decode cX9_tick 17 = .ok (.iconst 1, 1) := by decide +kernel
theorem dX9_tick_18 : decode cX9_tick 18 = .ok (.invokevirtual 93, 3) := by decide +kernel
theorem dX9_tick_21 : decode cX9_tick 21 = .ok (.ifCond .eq 5, 3) := by decide +kernel
theorem dX9_tick_24 : decode cX9_tick 24 = .ok (.iconst 0, 1) := by decide +kernel
theorem dX9_tick_25 : decode cX9_tick 25 = .ok (.ireturn, 1) := by decide +kernel
theorem dX9_tick_26 : decode cX9_tick 26 = .ok (.aload_n 0, 1) := by decide +kernel
theorem dX9_tick_27 : decode cX9_tick 27 = .ok (.invokevirtual 79, 3) := by decide +kernel
theorem dX9_tick_30 : decode cX9_tick 30 = .ok (.aload_n 0, 1) := by decide +kernel
theorem dX9_tick_31 : decode cX9_tick 31 = .ok (.getfield 41, 3) := by decide +kernel
theorem dX9_tick_34 : decode cX9_tick 34 = .ok (.iconst 1, 1) := by decide +kernel
theorem dX9_tick_35 : decode cX9_tick 35 = .ok (.iaload, 1) := by decide +kernel
theorem dX9_tick_36 : decode cX9_tick 36 = .ok (.istore_n 2, 1) := by decide +kernel
theorem dX9_tick_37 : decode cX9_tick 37 = .ok (.iconst 0, 1) := by decide +kernel
theorem dX9_tick_38 : decode cX9_tick 38 = .ok (.istore_n 3, 1) := by decide +kernel
theorem dX9_tick_39 : decode cX9_tick 39 = .ok (.iload_n 3, 1) := by decide +kernel
theorem dX9_tick_40 : decode cX9_tick 40 = .ok (.iload_n 1, 1) := by decide +kernel
theorem dX9_tick_41 : decode cX9_tick 41 = .ok (.if_icmp .ge 17, 3) := by decide +kernel
theorem dX9_tick_44 : decode cX9_tick 44 = .ok (.aload_n 0, 1) := by decide +kernel
theorem dX9_tick_45 : decode cX9_tick 45 = .ok (.aload_n 0, 1) := by decide +kernel
theorem dX9_tick_46 : decode cX9_tick 46 = .ok (.getfield 41, 3) := by decide +kernel
theorem dX9_tick_49 : decode cX9_tick 49 = .ok (.invokevirtual 230, 3) := by decide +kernel
theorem dX9_tick_52 : decode cX9_tick 52 = .ok (.iinc 3 1, 3) := by decide +kernel
theorem dX9_tick_55 : decode cX9_tick 55 = .ok (.goto (-16), 3) := by decide +kernel
theorem dX9_tick_58 : decode cX9_tick 58 = .ok (.aload_n 0, 1) := by decide +kernel
theorem dX9_tick_59 : decode cX9_tick 59 = .ok (.getfield 41, 3) := by decide +kernel
theorem dX9_tick_62 : decode cX9_tick 62 = .ok (.iconst 1, 1) := by decide +kernel
theorem dX9_tick_63 : decode cX9_tick 63 = .ok (.iaload, 1) := by decide +kernel
theorem dX9_tick_64 : decode cX9_tick 64 = .ok (.iload_n 2, 1) := by decide +kernel
theorem dX9_tick_65 : decode cX9_tick 65 = .ok (.isub, 1) := by decide +kernel
theorem dX9_tick_66 : decode cX9_tick 66 = .ok (.ireturn, 1) := by decide +kernel
theorem dX9_undo_0 : decode cX9_undo 0 = .ok (.aload_n 0, 1) := by decide +kernel
theorem dX9_undo_1 : decode cX9_undo 1 = .ok (.aload_n 0, 1) := by decide +kernel
theorem dX9_undo_2 : decode cX9_undo 2 = .ok (.getfield 72, 3) := by decide +kernel
theorem dX9_undo_5 : decode cX9_undo 5 = .ok (.ifCond .ne 7, 3) := by decide +kernel
theorem dX9_undo_8 : decode cX9_undo 8 = .ok (.iconst 1, 1) := by decide +kernel
theorem dX9_undo_9 : decode cX9_undo 9 = .ok (.goto 4, 3) := by decide +kernel
theorem dX9_undo_12 : decode cX9_undo 12 = .ok (.iconst 0, 1) := by decide +kernel
theorem dX9_undo_13 : decode cX9_undo 13 = .ok (.invokevirtual 93, 3) := by decide +kernel
theorem dX9_undo_16 : decode cX9_undo 16 = .ok (.ifCond .eq 5, 3) := by decide +kernel
theorem dX9_undo_19 : decode cX9_undo 19 = .ok (.iconst 0, 1) := by decide +kernel
theorem dX9_undo_20 : decode cX9_undo 20 = .ok (.ireturn, 1) := by decide +kernel
theorem dX9_undo_21 : decode cX9_undo 21 = .ok (.aload_n 0, 1) := by decide +kernel
theorem dX9_undo_22 : decode cX9_undo 22 = .ok (.dup, 1) := by decide +kernel
theorem dX9_undo_23 : decode cX9_undo 23 = .ok (.getfield 72, 3) := by decide +kernel
theorem dX9_undo_26 : decode cX9_undo 26 = .ok (.iconst 1, 1) := by decide +kernel
theorem dX9_undo_27 : decode cX9_undo 27 = .ok (.isub, 1) := by decide +kernel
theorem dX9_undo_28 : decode cX9_undo 28 = .ok (.putfield 72, 3) := by decide +kernel
theorem dX9_undo_31 : decode cX9_undo 31 = .ok (.aload_n 0, 1) := by decide +kernel
theorem dX9_undo_32 : decode cX9_undo 32 = .ok (.getfield 47, 3) := by decide +kernel
theorem dX9_undo_35 : decode cX9_undo 35 = .ok (.bipush 107, 2) := by decide +kernel
theorem dX9_undo_37 : decode cX9_undo 37 = .ok (.aload_n 0, 1) := by decide +kernel
theorem dX9_undo_38 : decode cX9_undo 38 = .ok (.getfield 72, 3) := by decide +kernel
theorem dX9_undo_41 : decode cX9_undo 41 = .ok (.imul, 1) := by decide +kernel
theorem dX9_undo_42 : decode cX9_undo 42 = .ok (.aload_n 0, 1) := by decide +kernel
theorem dX9_undo_43 : decode cX9_undo 43 = .ok (.getfield 41, 3) := by decide +kernel
theorem dX9_undo_46 : decode cX9_undo 46 = .ok (.iconst 0, 1) := by decide +kernel
theorem dX9_undo_47 : decode cX9_undo 47 = .ok (.bipush 107, 2) := by decide +kernel
theorem dX9_undo_49 : decode cX9_undo 49 = .ok (.invokestatic 75, 3) := by decide +kernel
theorem dX9_undo_52 : decode cX9_undo 52 = .ok (.aload_n 0, 1) := by decide +kernel
theorem dX9_undo_53 : decode cX9_undo 53 = .ok (.getfield 72, 3) := by decide +kernel
theorem dX9_undo_56 : decode cX9_undo 56 = .ok (.ireturn, 1) := by decide +kernel
theorem dX9_state_0 : decode cX9_state 0 = .ok (.aload_n 0, 1) := by decide +kernel
theorem dX9_state_1 : decode cX9_state 1 = .ok (.aload_n 0, 1) := by decide +kernel
theorem dX9_state_2 : decode cX9_state 2 = .ok (.iload_n 1, 1) := by decide +kernel
theorem dX9_state_3 : decode cX9_state 3 = .ok (.invokevirtual 203, 3) := by decide +kernel
theorem dX9_state_6 : decode cX9_state 6 = .ok (.ifCond .eq 15, 3) := by decide +kernel
theorem dX9_state_9 : decode cX9_state 9 = .ok (.aload_n 0, 1) := by decide +kernel
theorem dX9_state_10 : decode cX9_state 10 = .ok (.iload_n 2, 1) := by decide +kernel
theorem dX9_state_11 : decode cX9_state 11 = .ok (.invokevirtual 211, 3) := by decide +kernel
theorem dX9_state_14 : decode cX9_state 14 = .ok (.ifCond .eq 7, 3) := by decide +kernel
theorem dX9_state_17 : decode cX9_state 17 = .ok (.iconst 0, 1) := by decide +kernel
theorem dX9_state_18 : decode cX9_state 18 = .ok (.goto 4, 3) := by decide +kernel
theorem dX9_state_21 : decode cX9_state 21 = .ok (.iconst 1, 1) := by decide +kernel
theorem dX9_state_22 : decode cX9_state 22 = .ok (.invokevirtual 93, 3) := by decide +kernel
theorem dX9_state_25 : decode cX9_state 25 = .ok (.ifCond .eq 5, 3) := by decide +kernel
theorem dX9_state_28 : decode cX9_state 28 = .ok (.iconst 0, 1) := by decide +kernel
theorem dX9_state_29 : decode cX9_state 29 = .ok (.ireturn, 1) := by decide +kernel
theorem dX9_state_30 : decode cX9_state 30 = .ok (.aload_n 0, 1) := by decide +kernel
theorem dX9_state_31 : decode cX9_state 31 = .ok (.aload_n 0, 1) := by decide +kernel
theorem dX9_state_32 : decode cX9_state 32 = .ok (.getfield 41, 3) := by decide +kernel
theorem dX9_state_35 : decode cX9_state 35 = .ok (.iload_n 1, 1) := by decide +kernel
theorem dX9_state_36 : decode cX9_state 36 = .ok (.iload_n 2, 1) := by decide +kernel
theorem dX9_state_37 : decode cX9_state 37 = .ok (.invokevirtual 184, 3) := by decide +kernel
theorem dX9_state_40 : decode cX9_state 40 = .ok (.ireturn, 1) := by decide +kernel
theorem dX9_next_0 : decode cX9_next 0 = .ok (.aload_n 0, 1) := by decide +kernel
theorem dX9_next_1 : decode cX9_next 1 = .ok (.aload_n 0, 1) := by decide +kernel
theorem dX9_next_2 : decode cX9_next 2 = .ok (.iload_n 1, 1) := by decide +kernel
theorem dX9_next_3 : decode cX9_next 3 = .ok (.invokevirtual 203, 3) := by decide +kernel
theorem dX9_next_6 : decode cX9_next 6 = .ok (.ifCond .eq 7, 3) := by decide +kernel
theorem dX9_next_9 : decode cX9_next 9 = .ok (.iconst 0, 1) := by decide +kernel
theorem dX9_next_10 : decode cX9_next 10 = .ok (.goto 4, 3) := by decide +kernel
theorem dX9_next_13 : decode cX9_next 13 = .ok (.iconst 1, 1) := by decide +kernel
theorem dX9_next_14 : decode cX9_next 14 = .ok (.invokevirtual 93, 3) := by decide +kernel
theorem dX9_next_17 : decode cX9_next 17 = .ok (.ifCond .eq 7, 3) := by decide +kernel
theorem dX9_next_20 : decode cX9_next 20 = .ok (.iconst 0, 1) := by decide +kernel
theorem dX9_next_21 : decode cX9_next 21 = .ok (.goto 12, 3) := by decide +kernel
theorem dX9_next_24 : decode cX9_next 24 = .ok (.aload_n 0, 1) := by decide +kernel
theorem dX9_next_25 : decode cX9_next 25 = .ok (.aload_n 0, 1) := by decide +kernel
theorem dX9_next_26 : decode cX9_next 26 = .ok (.getfield 41, 3) := by decide +kernel
theorem dX9_next_29 : decode cX9_next 29 = .ok (.iload_n 1, 1) := by decide +kernel
theorem dX9_next_30 : decode cX9_next 30 = .ok (.invokevirtual 187, 3) := by decide +kernel
theorem dX9_next_33 : decode cX9_next 33 = .ok (.ireturn, 1) := by decide +kernel
theorem dX9_breaks_0 : decode cX9_breaks 0 = .ok (.aload_n 0, 1) := by decide +kernel
theorem dX9_breaks_1 : decode cX9_breaks 1 = .ok (.aload_n 0, 1) := by decide +kernel
theorem dX9_breaks_2 : decode cX9_breaks 2 = .ok (.iload_n 1, 1) := by decide +kernel
theorem dX9_breaks_3 : decode cX9_breaks 3 = .ok (.invokevirtual 203, 3) := by decide +kernel
theorem dX9_breaks_6 : decode cX9_breaks 6 = .ok (.ifCond .eq 11, 3) := by decide +kernel
theorem dX9_breaks_9 : decode cX9_breaks 9 = .ok (.aload_n 0, 1) := by decide +kernel
theorem dX9_breaks_10 : decode cX9_breaks 10 = .ok (.iload_n 2, 1) := by decide +kernel
theorem dX9_breaks_11 : decode cX9_breaks 11 = .ok (.invokevirtual 211, 3) := by decide +kernel
theorem dX9_breaks_14 : decode cX9_breaks 14 = .ok (.ifCond .ne 7, 3) := by decide +kernel
theorem dX9_breaks_17 : decode cX9_breaks 17 = .ok (.iconst 1, 1) := by decide +kernel
theorem dX9_breaks_18 : decode cX9_breaks 18 = .ok (.goto 15, 3) := by decide +kernel
theorem dX9_breaks_21 : decode cX9_breaks 21 = .ok (.iload_n 3, 1) := by decide +kernel
theorem dX9_breaks_22 : decode cX9_breaks 22 = .ok (.invokestatic 216, 3) := by decide +kernel
theorem dX9_breaks_25 : decode cX9_breaks 25 = .ok (.ifCond .ne 7, 3) := by decide +kernel
theorem dX9_breaks_28 : decode cX9_breaks 28 = .ok (.iconst 2, 1) := by decide +kernel
theorem dX9_breaks_29 : decode cX9_breaks 29 = .ok (.goto 4, 3) := by decide +kernel
theorem dX9_breaks_32 : decode cX9_breaks 32 = .ok (.iconst 0, 1) := by decide +kernel
theorem dX9_breaks_33 : decode cX9_breaks 33 = .ok (.invokevirtual 93, 3) := by decide +kernel
theorem dX9_breaks_36 : decode cX9_breaks 36 = .ok (.ifCond .eq 5, 3) := by decide +kernel
theorem dX9_breaks_39 : decode cX9_breaks 39 = .ok (.iconst 0, 1) := by decide +kernel
theorem dX9_breaks_40 : decode cX9_breaks 40 = .ok (.ireturn, 1) := by decide +kernel
theorem dX9_breaks_41 : decode cX9_breaks 41 = .ok (.aload_n 0, 1) := by decide +kernel
theorem dX9_breaks_42 : decode cX9_breaks 42 = .ok (.aload_n 0, 1) := by decide +kernel
theorem dX9_breaks_43 : decode cX9_breaks 43 = .ok (.getfield 41, 3) := by decide +kernel
theorem dX9_breaks_46 : decode cX9_breaks 46 = .ok (.iload_n 1, 1) := by decide +kernel
theorem dX9_breaks_47 : decode cX9_breaks 47 = .ok (.iload_n 2, 1) := by decide +kernel
theorem dX9_breaks_48 : decode cX9_breaks 48 = .ok (.iload_n 3, 1) := by decide +kernel
theorem dX9_breaks_49 : decode cX9_breaks 49 = .ok (.invokevirtual 180, 3) := by decide +kernel
theorem dX9_breaks_52 : decode cX9_breaks 52 = .ok (.ireturn, 1) := by decide +kernel
theorem dX9_holdsUp_0 : decode cX9_holdsUp 0 = .ok (.aload_n 0, 1) := by decide +kernel
theorem dX9_holdsUp_1 : decode cX9_holdsUp 1 = .ok (.iload_n 1, 1) := by decide +kernel
theorem dX9_holdsUp_2 : decode cX9_holdsUp 2 = .ok (.i2l, 1) := by decide +kernel
theorem dX9_holdsUp_3 : decode cX9_holdsUp 3 = .ok (.lconst 0, 1) := by decide +kernel
theorem dX9_holdsUp_4 : decode cX9_holdsUp 4 = .ok (.aload_n 0, 1) := by decide +kernel
theorem dX9_holdsUp_5 : decode cX9_holdsUp 5 = .ok (.getfield 146, 3) := by decide +kernel
theorem dX9_holdsUp_8 : decode cX9_holdsUp 8 = .ok (.iconst 1, 1) := by decide +kernel
theorem dX9_holdsUp_9 : decode cX9_holdsUp 9 = .ok (.isub, 1) := by decide +kernel
theorem dX9_holdsUp_10 : decode cX9_holdsUp 10 = .ok (.i2l, 1) := by decide +kernel
theorem dX9_holdsUp_11 : decode cX9_holdsUp 11 = .ok (.invokestatic 82, 3) := by decide +kernel
theorem dX9_holdsUp_14 : decode cX9_holdsUp 14 = .ok (.ifCond .eq 7, 3) := by decide +kernel
theorem dX9_holdsUp_17 : decode cX9_holdsUp 17 = .ok (.iconst 0, 1) := by decide +kernel
theorem dX9_holdsUp_18 : decode cX9_holdsUp 18 = .ok (.goto 4, 3) := by decide +kernel
theorem dX9_holdsUp_21 : decode cX9_holdsUp 21 = .ok (.iconst 1, 1) := by decide +kernel
theorem dX9_holdsUp_22 : decode cX9_holdsUp 22 = .ok (.invokevirtual 93, 3) := by decide +kernel
theorem dX9_holdsUp_25 : decode cX9_holdsUp 25 = .ok (.ifCond .eq 5, 3) := by decide +kernel
theorem dX9_holdsUp_28 : decode cX9_holdsUp 28 = .ok (.iconst 0, 1) := by decide +kernel
theorem dX9_holdsUp_29 : decode cX9_holdsUp 29 = .ok (.ireturn, 1) := by decide +kernel
theorem dX9_holdsUp_30 : decode cX9_holdsUp 30 = .ok (.iconst 0, 1) := by decide +kernel
theorem dX9_holdsUp_31 : decode cX9_holdsUp 31 = .ok (.istore_n 2, 1) := by decide +kernel
theorem dX9_holdsUp_32 : decode cX9_holdsUp 32 = .ok (.iconst 0, 1) := by decide +kernel
theorem dX9_holdsUp_33 : decode cX9_holdsUp 33 = .ok (.istore_n 3, 1) := by decide +kernel
theorem dX9_holdsUp_34 : decode cX9_holdsUp 34 = .ok (.iload_n 3, 1) := by decide +kernel
theorem dX9_holdsUp_35 : decode cX9_holdsUp 35 = .ok (.aload_n 0, 1) := by decide +kernel
theorem dX9_holdsUp_36 : decode cX9_holdsUp 36 = .ok (.getfield 13, 3) := by decide +kernel
theorem dX9_holdsUp_39 : decode cX9_holdsUp 39 = .ok (.if_icmp .ge 94, 3) := by decide +kernel
theorem dX9_holdsUp_42 : decode cX9_holdsUp 42 = .ok (.iconst 0, 1) := by decide +kernel
theorem dX9_holdsUp_43 : decode cX9_holdsUp 43 = .ok (.istore 4, 2) := by decide +kernel
theorem dX9_holdsUp_45 : decode cX9_holdsUp 45 = .ok (.iload 4, 2) := by decide +kernel
theorem dX9_holdsUp_47 : decode cX9_holdsUp 47 = .ok (.aload_n 0, 1) := by decide +kernel
theorem dX9_holdsUp_48 : decode cX9_holdsUp 48 = .ok (.getfield 17, 3) := by decide +kernel
theorem dX9_holdsUp_51 : decode cX9_holdsUp 51 = .ok (.if_icmp .ge 76, 3) := by decide +kernel
theorem dX9_holdsUp_54 : decode cX9_holdsUp 54 = .ok (.aload_n 0, 1) := by decide +kernel
theorem dX9_holdsUp_55 : decode cX9_holdsUp 55 = .ok (.aload_n 0, 1) := by decide +kernel
theorem dX9_holdsUp_56 : decode cX9_holdsUp 56 = .ok (.getfield 41, 3) := by decide +kernel
theorem dX9_holdsUp_59 : decode cX9_holdsUp 59 = .ok (.iload_n 3, 1) := by decide +kernel
theorem dX9_holdsUp_60 : decode cX9_holdsUp 60 = .ok (.iload 4, 2) := by decide +kernel
theorem dX9_holdsUp_62 : decode cX9_holdsUp 62 = .ok (.aload_n 0, 1) := by decide +kernel
theorem dX9_holdsUp_63 : decode cX9_holdsUp 63 = .ok (.getfield 41, 3) := by decide +kernel
theorem dX9_holdsUp_66 : decode cX9_holdsUp 66 = .ok (.iload_n 3, 1) := by decide +kernel
theorem dX9_holdsUp_67 : decode cX9_holdsUp 67 = .ok (.invokestatic 126, 3) := by decide +kernel
theorem dX9_holdsUp_70 : decode cX9_holdsUp 70 = .ok (.bipush 6, 2) := by decide +kernel
theorem dX9_holdsUp_72 : decode cX9_holdsUp 72 = .ok (.iadd, 1) := by decide +kernel
theorem dX9_holdsUp_73 : decode cX9_holdsUp 73 = .ok (.iload 4, 2) := by decide +kernel
theorem dX9_holdsUp_75 : decode cX9_holdsUp 75 = .ok (.iadd, 1) := by decide +kernel
theorem dX9_holdsUp_76 : decode cX9_holdsUp 76 = .ok (.iaload, 1) := by decide +kernel
theorem dX9_holdsUp_77 : decode cX9_holdsUp 77 = .ok (.invokevirtual 180, 3) := by decide +kernel
theorem dX9_holdsUp_80 : decode cX9_holdsUp 80 = .ok (.iconst 1, 1) := by decide +kernel
theorem dX9_holdsUp_81 : decode cX9_holdsUp 81 = .ok (.iload_n 1, 1) := by decide +kernel
theorem dX9_holdsUp_82 : decode cX9_holdsUp 82 = .ok (.ishl, 1) := by decide +kernel
theorem dX9_holdsUp_83 : decode cX9_holdsUp 83 = .ok (.if_icmp .ne 7, 3) := by decide +kernel
theorem dX9_holdsUp_86 : decode cX9_holdsUp 86 = .ok (.iconst 1, 1) := by decide +kernel
theorem dX9_holdsUp_87 : decode cX9_holdsUp 87 = .ok (.goto 4, 3) := by decide +kernel
theorem dX9_holdsUp_90 : decode cX9_holdsUp 90 = .ok (.iconst 0, 1) := by decide +kernel
theorem dX9_holdsUp_91 : decode cX9_holdsUp 91 = .ok (.istore 5, 2) := by decide +kernel
theorem dX9_holdsUp_93 : decode cX9_holdsUp 93 = .ok (.iload_n 2, 1) := by decide +kernel
theorem dX9_holdsUp_94 : decode cX9_holdsUp 94 = .ok (.iload 5, 2) := by decide +kernel
theorem dX9_holdsUp_96 : decode cX9_holdsUp 96 = .ok (.ifCond .eq 22, 3) := by decide +kernel
theorem dX9_holdsUp_99 : decode cX9_holdsUp 99 = .ok (.aload_n 0, 1) := by decide +kernel
theorem dX9_holdsUp_100 : decode cX9_holdsUp 100 = .ok (.aload_n 0, 1) := by decide +kernel
theorem dX9_holdsUp_101 : decode cX9_holdsUp 101 = .ok (.getfield 41, 3) := by decide +kernel
theorem dX9_holdsUp_104 : decode cX9_holdsUp 104 = .ok (.iload_n 3, 1) := by decide +kernel
theorem dX9_holdsUp_105 : decode cX9_holdsUp 105 = .ok (.iload 4, 2) := by decide +kernel
theorem dX9_holdsUp_107 : decode cX9_holdsUp 107 = .ok (.invokevirtual 184, 3) := by decide +kernel
theorem dX9_holdsUp_110 : decode cX9_holdsUp 110 = .ok (.iconst 5, 1) := by decide +kernel
theorem dX9_holdsUp_111 : decode cX9_holdsUp 111 = .ok (.if_icmp .ne 7, 3) := by decide +kernel
theorem dX9_holdsUp_114 : decode cX9_holdsUp 114 = .ok (.iconst 1, 1) := by decide +kernel
theorem dX9_holdsUp_115 : decode cX9_holdsUp 115 = .ok (.goto 4, 3) := by decide +kernel
theorem dX9_holdsUp_118 : decode cX9_holdsUp 118 = .ok (.iconst 0, 1) := by decide +kernel
theorem dX9_holdsUp_119 : decode cX9_holdsUp 119 = .ok (.iadd, 1) := by decide +kernel
theorem dX9_holdsUp_120 : decode cX9_holdsUp 120 = .ok (.istore_n 2, 1) := by decide +kernel
theorem dX9_holdsUp_121 : decode cX9_holdsUp 121 = .ok (.iinc 4 1, 3) := by decide +kernel
theorem dX9_holdsUp_124 : decode cX9_holdsUp 124 = .ok (.goto (-79), 3) := by decide +kernel
theorem dX9_holdsUp_127 : decode cX9_holdsUp 127 = .ok (.iinc 3 1, 3) := by decide +kernel
theorem dX9_holdsUp_130 : decode cX9_holdsUp 130 = .ok (.goto (-96), 3) := by decide +kernel
theorem dX9_holdsUp_133 : decode cX9_holdsUp 133 = .ok (.iload_n 2, 1) := by decide +kernel
theorem dX9_holdsUp_134 : decode cX9_holdsUp 134 = .ok (.ireturn, 1) := by decide +kernel
theorem dX9_missing_0 : decode cX9_missing 0 = .ok (.aload_n 0, 1) := by decide +kernel
theorem dX9_missing_1 : decode cX9_missing 1 = .ok (.aload_n 0, 1) := by decide +kernel
theorem dX9_missing_2 : decode cX9_missing 2 = .ok (.iload_n 1, 1) := by decide +kernel
theorem dX9_missing_3 : decode cX9_missing 3 = .ok (.invokevirtual 211, 3) := by decide +kernel
theorem dX9_missing_6 : decode cX9_missing 6 = .ok (.ifCond .eq 7, 3) := by decide +kernel
theorem dX9_missing_9 : decode cX9_missing 9 = .ok (.iconst 0, 1) := by decide +kernel
theorem dX9_missing_10 : decode cX9_missing 10 = .ok (.goto 4, 3) := by decide +kernel
theorem dX9_missing_13 : decode cX9_missing 13 = .ok (.iconst 1, 1) := by decide +kernel
theorem dX9_missing_14 : decode cX9_missing 14 = .ok (.invokevirtual 93, 3) := by decide +kernel
theorem dX9_missing_17 : decode cX9_missing 17 = .ok (.ifCond .eq 5, 3) := by decide +kernel
theorem dX9_missing_20 : decode cX9_missing 20 = .ok (.iconst 0, 1) := by decide +kernel
theorem dX9_missing_21 : decode cX9_missing 21 = .ok (.ireturn, 1) := by decide +kernel
theorem dX9_missing_22 : decode cX9_missing 22 = .ok (.iconst 0, 1) := by decide +kernel
theorem dX9_missing_23 : decode cX9_missing 23 = .ok (.istore_n 2, 1) := by decide +kernel
theorem dX9_missing_24 : decode cX9_missing 24 = .ok (.iconst 0, 1) := by decide +kernel
theorem dX9_missing_25 : decode cX9_missing 25 = .ok (.istore_n 3, 1) := by decide +kernel
theorem dX9_missing_26 : decode cX9_missing 26 = .ok (.iload_n 3, 1) := by decide +kernel
theorem dX9_missing_27 : decode cX9_missing 27 = .ok (.iconst 4, 1) := by decide +kernel
theorem dX9_missing_28 : decode cX9_missing 28 = .ok (.if_icmp .ge 96, 3) := by decide +kernel
theorem dX9_missing_31 : decode cX9_missing 31 = .ok (.iconst 0, 1) := by decide +kernel
theorem dX9_missing_32 : decode cX9_missing 32 = .ok (.istore 4, 2) := by decide +kernel
theorem dX9_missing_34 : decode cX9_missing 34 = .ok (.iconst 0, 1) := by decide +kernel
theorem dX9_missing_35 : decode cX9_missing 35 = .ok (.istore 5, 2) := by decide +kernel
theorem dX9_missing_37 : decode cX9_missing 37 = .ok (.iload 5, 2) := by decide +kernel
theorem dX9_missing_39 : decode cX9_missing 39 = .ok (.aload_n 0, 1) := by decide +kernel
theorem dX9_missing_40 : decode cX9_missing 40 = .ok (.getfield 13, 3) := by decide +kernel
theorem dX9_missing_43 : decode cX9_missing 43 = .ok (.if_icmp .ge 54, 3) := by decide +kernel
theorem dX9_missing_46 : decode cX9_missing 46 = .ok (.iload 4, 2) := by decide +kernel
theorem dX9_missing_48 : decode cX9_missing 48 = .ok (.ifCond .ne 36, 3) := by decide +kernel
theorem dX9_missing_51 : decode cX9_missing 51 = .ok (.aload_n 0, 1) := by decide +kernel
theorem dX9_missing_52 : decode cX9_missing 52 = .ok (.aload_n 0, 1) := by decide +kernel
theorem dX9_missing_53 : decode cX9_missing 53 = .ok (.getfield 41, 3) := by decide +kernel
theorem dX9_missing_56 : decode cX9_missing 56 = .ok (.iload 5, 2) := by decide +kernel
theorem dX9_missing_58 : decode cX9_missing 58 = .ok (.iload_n 1, 1) := by decide +kernel
theorem dX9_missing_59 : decode cX9_missing 59 = .ok (.invokevirtual 163, 3) := by decide +kernel
theorem dX9_missing_62 : decode cX9_missing 62 = .ok (.ifCond .eq 26, 3) := by decide +kernel
theorem dX9_missing_65 : decode cX9_missing 65 = .ok (.aload_n 0, 1) := by decide +kernel
theorem dX9_missing_66 : decode cX9_missing 66 = .ok (.getfield 41, 3) := by decide +kernel
theorem dX9_missing_69 : decode cX9_missing 69 = .ok (.iload 5, 2) := by decide +kernel
theorem dX9_missing_71 : decode cX9_missing 71 = .ok (.invokestatic 126, 3) := by decide +kernel
theorem dX9_missing_74 : decode cX9_missing 74 = .ok (.bipush 6, 2) := by decide +kernel
theorem dX9_missing_76 : decode cX9_missing 76 = .ok (.iadd, 1) := by decide +kernel
theorem dX9_missing_77 : decode cX9_missing 77 = .ok (.iload_n 1, 1) := by decide +kernel
theorem dX9_missing_78 : decode cX9_missing 78 = .ok (.iadd, 1) := by decide +kernel
theorem dX9_missing_79 : decode cX9_missing 79 = .ok (.iaload, 1) := by decide +kernel
theorem dX9_missing_80 : decode cX9_missing 80 = .ok (.iload_n 3, 1) := by decide +kernel
theorem dX9_missing_81 : decode cX9_missing 81 = .ok (.if_icmp .ne 7, 3) := by decide +kernel
theorem dX9_missing_84 : decode cX9_missing 84 = .ok (.iconst 1, 1) := by decide +kernel
theorem dX9_missing_85 : decode cX9_missing 85 = .ok (.goto 4, 3) := by decide +kernel
theorem dX9_missing_88 : decode cX9_missing 88 = .ok (.iconst 0, 1) := by decide +kernel
theorem dX9_missing_89 : decode cX9_missing 89 = .ok (.istore 4, 2) := by decide +kernel
theorem dX9_missing_91 : decode cX9_missing 91 = .ok (.iinc 5 1, 3) := by decide +kernel
theorem dX9_missing_94 : decode cX9_missing 94 = .ok (.goto (-57), 3) := by decide +kernel
theorem dX9_missing_97 : decode cX9_missing 97 = .ok (.iload_n 2, 1) := by decide +kernel
theorem dX9_missing_98 : decode cX9_missing 98 = .ok (.iload 4, 2) := by decide +kernel
theorem dX9_missing_100 : decode cX9_missing 100 = .ok (.ifCond .eq 15, 3) := by decide +kernel
theorem dX9_missing_103 : decode cX9_missing 103 = .ok (.aload_n 0, 1) := by decide +kernel
theorem dX9_missing_104 : decode cX9_missing 104 = .ok (.getfield 41, 3) := by decide +kernel
theorem dX9_missing_107 : decode cX9_missing 107 = .ok (.iload_n 1, 1) := by decide +kernel
theorem dX9_missing_108 : decode cX9_missing 108 = .ok (.iload_n 3, 1) := by decide +kernel
theorem dX9_missing_109 : decode cX9_missing 109 = .ok (.invokestatic 174, 3) := by decide +kernel
theorem dX9_missing_112 : decode cX9_missing 112 = .ok (.goto 4, 3) := by decide +kernel
theorem dX9_missing_115 : decode cX9_missing 115 = .ok (.iconst 0, 1) := by decide +kernel
theorem dX9_missing_116 : decode cX9_missing 116 = .ok (.iadd, 1) := by decide +kernel
theorem dX9_missing_117 : decode cX9_missing 117 = .ok (.istore_n 2, 1) := by decide +kernel
theorem dX9_missing_118 : decode cX9_missing 118 = .ok (.iinc 3 1, 3) := by decide +kernel
theorem dX9_missing_121 : decode cX9_missing 121 = .ok (.goto (-95), 3) := by decide +kernel
theorem dX9_missing_124 : decode cX9_missing 124 = .ok (.iload_n 2, 1) := by decide +kernel
theorem dX9_missing_125 : decode cX9_missing 125 = .ok (.ireturn, 1) := by decide +kernel
theorem dX9_ahead_0 : decode cX9_ahead 0 = .ok (.aload_n 0, 1) := by decide +kernel
theorem dX9_ahead_1 : decode cX9_ahead 1 = .ok (.aload_n 0, 1) := by decide +kernel
theorem dX9_ahead_2 : decode cX9_ahead 2 = .ok (.iload_n 2, 1) := by decide +kernel
theorem dX9_ahead_3 : decode cX9_ahead 3 = .ok (.invokevirtual 203, 3) := by decide +kernel
theorem dX9_ahead_6 : decode cX9_ahead 6 = .ok (.ifCond .ne 7, 3) := by decide +kernel
theorem dX9_ahead_9 : decode cX9_ahead 9 = .ok (.iconst 1, 1) := by decide +kernel
theorem dX9_ahead_10 : decode cX9_ahead 10 = .ok (.goto 32, 3) := by decide +kernel
theorem dX9_ahead_13 : decode cX9_ahead 13 = .ok (.iload_n 1, 1) := by decide +kernel
theorem dX9_ahead_14 : decode cX9_ahead 14 = .ok (.i2l, 1) := by decide +kernel
theorem dX9_ahead_15 : decode cX9_ahead 15 = .ok (.lconst 0, 1) := by decide +kernel
theorem dX9_ahead_16 : decode cX9_ahead 16 = .ok (.ldc2_w 234, 3) := by decide +kernel
theorem dX9_ahead_19 : decode cX9_ahead 19 = .ok (.invokestatic 82, 3) := by decide +kernel
theorem dX9_ahead_22 : decode cX9_ahead 22 = .ok (.ifCond .eq 15, 3) := by decide +kernel
theorem dX9_ahead_25 : decode cX9_ahead 25 = .ok (.iload_n 3, 1) := by decide +kernel
theorem dX9_ahead_26 : decode cX9_ahead 26 = .ok (.i2l, 1) := by decide +kernel
theorem dX9_ahead_27 : decode cX9_ahead 27 = .ok (.lconst 0, 1) := by decide +kernel
theorem dX9_ahead_28 : decode cX9_ahead 28 = .ok (.ldc2_w 206, 3) := by decide +kernel
theorem dX9_ahead_31 : decode cX9_ahead 31 = .ok (.invokestatic 82, 3) := by decide +kernel
theorem dX9_ahead_34 : decode cX9_ahead 34 = .ok (.ifCond .ne 7, 3) := by decide +kernel
theorem dX9_ahead_37 : decode cX9_ahead 37 = .ok (.iconst 2, 1) := by decide +kernel
theorem dX9_ahead_38 : decode cX9_ahead 38 = .ok (.goto 4, 3) := by decide +kernel
theorem dX9_ahead_41 : decode cX9_ahead 41 = .ok (.iconst 0, 1) := by decide +kernel
theorem dX9_ahead_42 : decode cX9_ahead 42 = .ok (.invokevirtual 93, 3) := by decide +kernel
theorem dX9_ahead_45 : decode cX9_ahead 45 = .ok (.ifCond .eq 5, 3) := by decide +kernel
theorem dX9_ahead_48 : decode cX9_ahead 48 = .ok (.iconst 0, 1) := by decide +kernel
theorem dX9_ahead_49 : decode cX9_ahead 49 = .ok (.ireturn, 1) := by decide +kernel
theorem dX9_ahead_50 : decode cX9_ahead 50 = .ok (.aload_n 0, 1) := by decide +kernel
theorem dX9_ahead_51 : decode cX9_ahead 51 = .ok (.getfield 41, 3) := by decide +kernel
theorem dX9_ahead_54 : decode cX9_ahead 54 = .ok (.iconst 0, 1) := by decide +kernel
theorem dX9_ahead_55 : decode cX9_ahead 55 = .ok (.aload_n 0, 1) := by decide +kernel
theorem dX9_ahead_56 : decode cX9_ahead 56 = .ok (.getfield 44, 3) := by decide +kernel
theorem dX9_ahead_59 : decode cX9_ahead 59 = .ok (.iconst 0, 1) := by decide +kernel
theorem dX9_ahead_60 : decode cX9_ahead 60 = .ok (.bipush 107, 2) := by decide +kernel
theorem dX9_ahead_62 : decode cX9_ahead 62 = .ok (.invokestatic 75, 3) := by decide +kernel
theorem dX9_ahead_65 : decode cX9_ahead 65 = .ok (.iconst 0, 1) := by decide +kernel
theorem dX9_ahead_66 : decode cX9_ahead 66 = .ok (.istore 4, 2) := by decide +kernel
theorem dX9_ahead_68 : decode cX9_ahead 68 = .ok (.iload 4, 2) := by decide +kernel
theorem dX9_ahead_70 : decode cX9_ahead 70 = .ok (.iload_n 1, 1) := by decide +kernel
theorem dX9_ahead_71 : decode cX9_ahead 71 = .ok (.if_icmp .ge 17, 3) := by decide +kernel
theorem dX9_ahead_74 : decode cX9_ahead 74 = .ok (.aload_n 0, 1) := by decide +kernel
theorem dX9_ahead_75 : decode cX9_ahead 75 = .ok (.aload_n 0, 1) := by decide +kernel
theorem dX9_ahead_76 : decode cX9_ahead 76 = .ok (.getfield 44, 3) := by decide +kernel
theorem dX9_ahead_79 : decode cX9_ahead 79 = .ok (.invokevirtual 230, 3) := by decide +kernel
theorem dX9_ahead_82 : decode cX9_ahead 82 = .ok (.iinc 4 1, 3) := by decide +kernel
theorem dX9_ahead_85 : decode cX9_ahead 85 = .ok (.goto (-17), 3) := by decide +kernel
theorem dX9_ahead_88 : decode cX9_ahead 88 = .ok (.aload_n 0, 1) := by decide +kernel
theorem dX9_ahead_89 : decode cX9_ahead 89 = .ok (.aload_n 0, 1) := by decide +kernel
theorem dX9_ahead_90 : decode cX9_ahead 90 = .ok (.getfield 44, 3) := by decide +kernel
theorem dX9_ahead_93 : decode cX9_ahead 93 = .ok (.iload_n 2, 1) := by decide +kernel
theorem dX9_ahead_94 : decode cX9_ahead 94 = .ok (.iload_n 3, 1) := by decide +kernel
theorem dX9_ahead_95 : decode cX9_ahead 95 = .ok (.invokevirtual 208, 3) := by decide +kernel
theorem dX9_ahead_98 : decode cX9_ahead 98 = .ok (.ireturn, 1) := by decide +kernel
theorem dX9_calmAfter_0 : decode cX9_calmAfter 0 = .ok (.aload_n 0, 1) := by decide +kernel
theorem dX9_calmAfter_1 : decode cX9_calmAfter 1 = .ok (.iconst 0, 1) := by decide +kernel
theorem dX9_calmAfter_2 : decode cX9_calmAfter 2 = .ok (.putfield 69, 3) := by decide +kernel
theorem dX9_calmAfter_5 : decode cX9_calmAfter 5 = .ok (.aload_n 0, 1) := by decide +kernel
theorem dX9_calmAfter_6 : decode cX9_calmAfter 6 = .ok (.getfield 41, 3) := by decide +kernel
theorem dX9_calmAfter_9 : decode cX9_calmAfter 9 = .ok (.iconst 0, 1) := by decide +kernel
theorem dX9_calmAfter_10 : decode cX9_calmAfter 10 = .ok (.aload_n 0, 1) := by decide +kernel
theorem dX9_calmAfter_11 : decode cX9_calmAfter 11 = .ok (.getfield 44, 3) := by decide +kernel
theorem dX9_calmAfter_14 : decode cX9_calmAfter 14 = .ok (.iconst 0, 1) := by decide +kernel
theorem dX9_calmAfter_15 : decode cX9_calmAfter 15 = .ok (.bipush 107, 2) := by decide +kernel
theorem dX9_calmAfter_17 : decode cX9_calmAfter 17 = .ok (.invokestatic 75, 3) := by decide +kernel
theorem dX9_calmAfter_20 : decode cX9_calmAfter 20 = .ok (.iconst 0, 1) := by decide +kernel
theorem dX9_calmAfter_21 : decode cX9_calmAfter 21 = .ok (.istore_n 1, 1) := by decide +kernel
theorem dX9_calmAfter_22 : decode cX9_calmAfter 22 = .ok (.iload_n 1, 1) := by decide +kernel
theorem dX9_calmAfter_23 : decode cX9_calmAfter 23 = .ok (.bipush 100, 2) := by decide +kernel
theorem dX9_calmAfter_25 : decode cX9_calmAfter 25 = .ok (.if_icmp .ge 38, 3) := by decide +kernel
theorem dX9_calmAfter_28 : decode cX9_calmAfter 28 = .ok (.aload_n 0, 1) := by decide +kernel
theorem dX9_calmAfter_29 : decode cX9_calmAfter 29 = .ok (.aload_n 0, 1) := by decide +kernel
theorem dX9_calmAfter_30 : decode cX9_calmAfter 30 = .ok (.getfield 44, 3) := by decide +kernel
theorem dX9_calmAfter_33 : decode cX9_calmAfter 33 = .ok (.invokevirtual 196, 3) := by decide +kernel
theorem dX9_calmAfter_36 : decode cX9_calmAfter 36 = .ok (.iconst 1, 1) := by decide +kernel
theorem dX9_calmAfter_37 : decode cX9_calmAfter 37 = .ok (.aload_n 0, 1) := by decide +kernel
theorem dX9_calmAfter_38 : decode cX9_calmAfter 38 = .ok (.getfield 13, 3) := by decide +kernel
theorem dX9_calmAfter_41 : decode cX9_calmAfter 41 = .ok (.ishl, 1) := by decide +kernel
theorem dX9_calmAfter_42 : decode cX9_calmAfter 42 = .ok (.iconst 1, 1) := by decide +kernel
theorem dX9_calmAfter_43 : decode cX9_calmAfter 43 = .ok (.isub, 1) := by decide +kernel
theorem dX9_calmAfter_44 : decode cX9_calmAfter 44 = .ok (.if_icmp .ne 5, 3) := by decide +kernel
theorem dX9_calmAfter_47 : decode cX9_calmAfter 47 = .ok (.iload_n 1, 1) := by decide +kernel
theorem dX9_calmAfter_48 : decode cX9_calmAfter 48 = .ok (.ireturn, 1) := by decide +kernel
theorem dX9_calmAfter_49 : decode cX9_calmAfter 49 = .ok (.aload_n 0, 1) := by decide +kernel
theorem dX9_calmAfter_50 : decode cX9_calmAfter 50 = .ok (.aload_n 0, 1) := by decide +kernel
theorem dX9_calmAfter_51 : decode cX9_calmAfter 51 = .ok (.getfield 44, 3) := by decide +kernel
theorem dX9_calmAfter_54 : decode cX9_calmAfter 54 = .ok (.invokevirtual 230, 3) := by decide +kernel
theorem dX9_calmAfter_57 : decode cX9_calmAfter 57 = .ok (.iinc 1 1, 3) := by decide +kernel
theorem dX9_calmAfter_60 : decode cX9_calmAfter 60 = .ok (.goto (-38), 3) := by decide +kernel
theorem dX9_calmAfter_63 : decode cX9_calmAfter 63 = .ok (.bipush (-9), 2) := by decide +kernel
theorem dX9_calmAfter_65 : decode cX9_calmAfter 65 = .ok (.ireturn, 1) := by decide +kernel
theorem dX9_layWays_0 : decode cX9_layWays 0 = .ok (.iconst 1, 1) := by decide +kernel
theorem dX9_layWays_1 : decode cX9_layWays 1 = .ok (.iconst 2, 1) := by decide +kernel
theorem dX9_layWays_2 : decode cX9_layWays 2 = .ok (.aload_n 0, 1) := by decide +kernel
theorem dX9_layWays_3 : decode cX9_layWays 3 = .ok (.getfield 17, 3) := by decide +kernel
theorem dX9_layWays_6 : decode cX9_layWays 6 = .ok (.imul, 1) := by decide +kernel
theorem dX9_layWays_7 : decode cX9_layWays 7 = .ok (.ishl, 1) := by decide +kernel
theorem dX9_layWays_8 : decode cX9_layWays 8 = .ok (.istore_n 2, 1) := by decide +kernel
theorem dX9_layWays_9 : decode cX9_layWays 9 = .ok (.iconst 0, 1) := by decide +kernel
theorem dX9_layWays_10 : decode cX9_layWays 10 = .ok (.istore_n 3, 1) := by decide +kernel
theorem dX9_layWays_11 : decode cX9_layWays 11 = .ok (.iload_n 3, 1) := by decide +kernel
theorem dX9_layWays_12 : decode cX9_layWays 12 = .ok (.iload_n 2, 1) := by decide +kernel
theorem dX9_layWays_13 : decode cX9_layWays 13 = .ok (.if_icmp .ge 28, 3) := by decide +kernel
theorem dX9_layWays_16 : decode cX9_layWays 16 = .ok (.aload_n 0, 1) := by decide +kernel
theorem dX9_layWays_17 : decode cX9_layWays 17 = .ok (.getfield 57, 3) := by decide +kernel
theorem dX9_layWays_20 : decode cX9_layWays 20 = .ok (.iload_n 3, 1) := by decide +kernel
theorem dX9_layWays_21 : decode cX9_layWays 21 = .ok (.aload_n 0, 1) := by decide +kernel
theorem dX9_layWays_22 : decode cX9_layWays 22 = .ok (.iload_n 3, 1) := by decide +kernel
theorem dX9_layWays_23 : decode cX9_layWays 23 = .ok (.invokevirtual 160, 3) := by decide +kernel
theorem dX9_layWays_26 : decode cX9_layWays 26 = .ok (.iastore, 1) := by decide +kernel
theorem dX9_layWays_27 : decode cX9_layWays 27 = .ok (.aload_n 0, 1) := by decide +kernel
theorem dX9_layWays_28 : decode cX9_layWays 28 = .ok (.getfield 60, 3) := by decide +kernel
theorem dX9_layWays_31 : decode cX9_layWays 31 = .ok (.iload_n 3, 1) := by decide +kernel
theorem dX9_layWays_32 : decode cX9_layWays 32 = .ok (.bipush (-9), 2) := by decide +kernel
theorem dX9_layWays_34 : decode cX9_layWays 34 = .ok (.iastore, 1) := by decide +kernel
theorem dX9_layWays_35 : decode cX9_layWays 35 = .ok (.iinc 3 1, 3) := by decide +kernel
theorem dX9_layWays_38 : decode cX9_layWays 38 = .ok (.goto (-27), 3) := by decide +kernel
theorem dX9_layWays_41 : decode cX9_layWays 41 = .ok (.aload_n 0, 1) := by decide +kernel
theorem dX9_layWays_42 : decode cX9_layWays 42 = .ok (.getfield 60, 3) := by decide +kernel
theorem dX9_layWays_45 : decode cX9_layWays 45 = .ok (.iload_n 1, 1) := by decide +kernel
theorem dX9_layWays_46 : decode cX9_layWays 46 = .ok (.iconst 0, 1) := by decide +kernel
theorem dX9_layWays_47 : decode cX9_layWays 47 = .ok (.iastore, 1) := by decide +kernel
theorem dX9_layWays_48 : decode cX9_layWays 48 = .ok (.aload_n 0, 1) := by decide +kernel
theorem dX9_layWays_49 : decode cX9_layWays 49 = .ok (.getfield 63, 3) := by decide +kernel
theorem dX9_layWays_52 : decode cX9_layWays 52 = .ok (.iconst 0, 1) := by decide +kernel
theorem dX9_layWays_53 : decode cX9_layWays 53 = .ok (.iload_n 1, 1) := by decide +kernel
theorem dX9_layWays_54 : decode cX9_layWays 54 = .ok (.iastore, 1) := by decide +kernel
theorem dX9_layWays_55 : decode cX9_layWays 55 = .ok (.iconst 0, 1) := by decide +kernel
theorem dX9_layWays_56 : decode cX9_layWays 56 = .ok (.istore_n 3, 1) := by decide +kernel
theorem dX9_layWays_57 : decode cX9_layWays 57 = .ok (.iconst 1, 1) := by decide +kernel
theorem dX9_layWays_58 : decode cX9_layWays 58 = .ok (.istore 4, 2) := by decide +kernel
theorem dX9_layWays_60 : decode cX9_layWays 60 = .ok (.iload_n 3, 1) := by decide +kernel
theorem dX9_layWays_61 : decode cX9_layWays 61 = .ok (.iload 4, 2) := by decide +kernel
theorem dX9_layWays_63 : decode cX9_layWays 63 = .ok (.if_icmp .ge 121, 3) := by decide +kernel
theorem dX9_layWays_66 : decode cX9_layWays 66 = .ok (.aload_n 0, 1) := by decide +kernel
theorem dX9_layWays_67 : decode cX9_layWays 67 = .ok (.getfield 63, 3) := by decide +kernel
theorem dX9_layWays_70 : decode cX9_layWays 70 = .ok (.iload_n 3, 1) := by decide +kernel
theorem dX9_layWays_71 : decode cX9_layWays 71 = .ok (.iaload, 1) := by decide +kernel
theorem dX9_layWays_72 : decode cX9_layWays 72 = .ok (.istore 5, 2) := by decide +kernel
theorem dX9_layWays_74 : decode cX9_layWays 74 = .ok (.iinc 3 1, 3) := by decide +kernel
theorem dX9_layWays_77 : decode cX9_layWays 77 = .ok (.iconst 0, 1) := by decide +kernel
theorem dX9_layWays_78 : decode cX9_layWays 78 = .ok (.istore 6, 2) := by decide +kernel
theorem dX9_layWays_80 : decode cX9_layWays 80 = .ok (.iload 6, 2) := by decide +kernel
theorem dX9_layWays_82 : decode cX9_layWays 82 = .ok (.aload_n 0, 1) := by decide +kernel
theorem dX9_layWays_83 : decode cX9_layWays 83 = .ok (.getfield 17, 3) := by decide +kernel
theorem dX9_layWays_86 : decode cX9_layWays 86 = .ok (.if_icmp .ge 95, 3) := by decide +kernel
theorem dX9_layWays_89 : decode cX9_layWays 89 = .ok (.iconst 0, 1) := by decide +kernel
theorem dX9_layWays_90 : decode cX9_layWays 90 = .ok (.istore 7, 2) := by decide +kernel
theorem dX9_layWays_92 : decode cX9_layWays 92 = .ok (.iload 7, 2) := by decide +kernel
theorem dX9_layWays_94 : decode cX9_layWays 94 = .ok (.iconst 4, 1) := by decide +kernel
theorem dX9_layWays_95 : decode cX9_layWays 95 = .ok (.if_icmp .ge 80, 3) := by decide +kernel
theorem dX9_layWays_98 : decode cX9_layWays 98 = .ok (.iload 5, 2) := by decide +kernel
theorem dX9_layWays_100 : decode cX9_layWays 100 = .ok (.iload 6, 2) := by decide +kernel
theorem dX9_layWays_102 : decode cX9_layWays 102 = .ok (.iload 7, 2) := by decide +kernel
theorem dX9_layWays_104 : decode cX9_layWays 104 = .ok (.invokestatic 157, 3) := by decide +kernel
theorem dX9_layWays_107 : decode cX9_layWays 107 = .ok (.istore 8, 2) := by decide +kernel
theorem dX9_layWays_109 : decode cX9_layWays 109 = .ok (.aload_n 0, 1) := by decide +kernel
theorem dX9_layWays_110 : decode cX9_layWays 110 = .ok (.getfield 60, 3) := by decide +kernel
theorem dX9_layWays_113 : decode cX9_layWays 113 = .ok (.iload 8, 2) := by decide +kernel
theorem dX9_layWays_115 : decode cX9_layWays 115 = .ok (.iaload, 1) := by decide +kernel
theorem dX9_layWays_116 : decode cX9_layWays 116 = .ok (.bipush (-9), 2) := by decide +kernel
theorem dX9_layWays_118 : decode cX9_layWays 118 = .ok (.if_icmp .ne 51, 3) := by decide +kernel
theorem dX9_layWays_121 : decode cX9_layWays 121 = .ok (.aload_n 0, 1) := by decide +kernel
theorem dX9_layWays_122 : decode cX9_layWays 122 = .ok (.getfield 57, 3) := by decide +kernel
theorem dX9_layWays_125 : decode cX9_layWays 125 = .ok (.iload 5, 2) := by decide +kernel
theorem dX9_layWays_127 : decode cX9_layWays 127 = .ok (.iaload, 1) := by decide +kernel
theorem dX9_layWays_128 : decode cX9_layWays 128 = .ok (.aload_n 0, 1) := by decide +kernel
theorem dX9_layWays_129 : decode cX9_layWays 129 = .ok (.getfield 57, 3) := by decide +kernel
theorem dX9_layWays_132 : decode cX9_layWays 132 = .ok (.iload 8, 2) := by decide +kernel
theorem dX9_layWays_134 : decode cX9_layWays 134 = .ok (.iaload, 1) := by decide +kernel
theorem dX9_layWays_135 : decode cX9_layWays 135 = .ok (.iconst (-1), 1) := by decide +kernel
theorem dX9_layWays_136 : decode cX9_layWays 136 = .ok (.ixor, 1) := by decide +kernel
theorem dX9_layWays_137 : decode cX9_layWays 137 = .ok (.iand, 1) := by decide +kernel
theorem dX9_layWays_138 : decode cX9_layWays 138 = .ok (.ifCond .ne 31, 3) := by decide +kernel
theorem dX9_layWays_141 : decode cX9_layWays 141 = .ok (.aload_n 0, 1) := by decide +kernel
theorem dX9_layWays_142 : decode cX9_layWays 142 = .ok (.getfield 60, 3) := by decide +kernel
theorem dX9_layWays_145 : decode cX9_layWays 145 = .ok (.iload 8, 2) := by decide +kernel
theorem dX9_layWays_147 : decode cX9_layWays 147 = .ok (.aload_n 0, 1) := by decide +kernel
theorem dX9_layWays_148 : decode cX9_layWays 148 = .ok (.getfield 60, 3) := by decide +kernel
theorem dX9_layWays_151 : decode cX9_layWays 151 = .ok (.iload 5, 2) := by decide +kernel
theorem dX9_layWays_153 : decode cX9_layWays 153 = .ok (.iaload, 1) := by decide +kernel
theorem dX9_layWays_154 : decode cX9_layWays 154 = .ok (.iconst 1, 1) := by decide +kernel
theorem dX9_layWays_155 : decode cX9_layWays 155 = .ok (.iadd, 1) := by decide +kernel
theorem dX9_layWays_156 : decode cX9_layWays 156 = .ok (.iastore, 1) := by decide +kernel
theorem dX9_layWays_157 : decode cX9_layWays 157 = .ok (.aload_n 0, 1) := by decide +kernel
theorem dX9_layWays_158 : decode cX9_layWays 158 = .ok (.getfield 63, 3) := by decide +kernel
theorem dX9_layWays_161 : decode cX9_layWays 161 = .ok (.iload 4, 2) := by decide +kernel
theorem dX9_layWays_163 : decode cX9_layWays 163 = .ok (.iload 8, 2) := by decide +kernel
theorem dX9_layWays_165 : decode cX9_layWays 165 = .ok (.iastore, 1) := by decide +kernel
theorem dX9_layWays_166 : decode cX9_layWays 166 = .ok (.iinc 4 1, 3) := by decide +kernel
theorem dX9_layWays_169 : decode cX9_layWays 169 = .ok (.iinc 7 1, 3) := by decide +kernel
theorem dX9_layWays_172 : decode cX9_layWays 172 = .ok (.goto (-80), 3) := by decide +kernel
theorem dX9_layWays_175 : decode cX9_layWays 175 = .ok (.iinc 6 1, 3) := by decide +kernel
theorem dX9_layWays_178 : decode cX9_layWays 178 = .ok (.goto (-98), 3) := by decide +kernel
theorem dX9_layWays_181 : decode cX9_layWays 181 = .ok (.goto (-121), 3) := by decide +kernel
theorem dX9_layWays_184 : decode cX9_layWays 184 = .ok (.return_, 1) := by decide +kernel
theorem dX9_fewest_0 : decode cX9_fewest 0 = .ok (.aload_n 0, 1) := by decide +kernel
theorem dX9_fewest_1 : decode cX9_fewest 1 = .ok (.aload_n 0, 1) := by decide +kernel
theorem dX9_fewest_2 : decode cX9_fewest 2 = .ok (.iload_n 1, 1) := by decide +kernel
theorem dX9_fewest_3 : decode cX9_fewest 3 = .ok (.invokevirtual 203, 3) := by decide +kernel
theorem dX9_fewest_6 : decode cX9_fewest 6 = .ok (.ifCond .eq 7, 3) := by decide +kernel
theorem dX9_fewest_9 : decode cX9_fewest 9 = .ok (.iconst 0, 1) := by decide +kernel
theorem dX9_fewest_10 : decode cX9_fewest 10 = .ok (.goto 4, 3) := by decide +kernel
theorem dX9_fewest_13 : decode cX9_fewest 13 = .ok (.iconst 1, 1) := by decide +kernel
theorem dX9_fewest_14 : decode cX9_fewest 14 = .ok (.invokevirtual 93, 3) := by decide +kernel
theorem dX9_fewest_17 : decode cX9_fewest 17 = .ok (.ifCond .eq 5, 3) := by decide +kernel
theorem dX9_fewest_20 : decode cX9_fewest 20 = .ok (.iconst 0, 1) := by decide +kernel
theorem dX9_fewest_21 : decode cX9_fewest 21 = .ok (.ireturn, 1) := by decide +kernel
theorem dX9_fewest_22 : decode cX9_fewest 22 = .ok (.aload_n 0, 1) := by decide +kernel
theorem dX9_fewest_23 : decode cX9_fewest 23 = .ok (.aload_n 0, 1) := by decide +kernel
theorem dX9_fewest_24 : decode cX9_fewest 24 = .ok (.aload_n 0, 1) := by decide +kernel
theorem dX9_fewest_25 : decode cX9_fewest 25 = .ok (.getfield 41, 3) := by decide +kernel
theorem dX9_fewest_28 : decode cX9_fewest 28 = .ok (.iload_n 1, 1) := by decide +kernel
theorem dX9_fewest_29 : decode cX9_fewest 29 = .ok (.bipush 6, 2) := by decide +kernel
theorem dX9_fewest_31 : decode cX9_fewest 31 = .ok (.invokevirtual 153, 3) := by decide +kernel
theorem dX9_fewest_34 : decode cX9_fewest 34 = .ok (.invokevirtual 236, 3) := by decide +kernel
theorem dX9_fewest_37 : decode cX9_fewest 37 = .ok (.aload_n 0, 1) := by decide +kernel
theorem dX9_fewest_38 : decode cX9_fewest 38 = .ok (.getfield 60, 3) := by decide +kernel
theorem dX9_fewest_41 : decode cX9_fewest 41 = .ok (.aload_n 0, 1) := by decide +kernel
theorem dX9_fewest_42 : decode cX9_fewest 42 = .ok (.aload_n 0, 1) := by decide +kernel
theorem dX9_fewest_43 : decode cX9_fewest 43 = .ok (.getfield 41, 3) := by decide +kernel
theorem dX9_fewest_46 : decode cX9_fewest 46 = .ok (.iload_n 1, 1) := by decide +kernel
theorem dX9_fewest_47 : decode cX9_fewest 47 = .ok (.iconst 0, 1) := by decide +kernel
theorem dX9_fewest_48 : decode cX9_fewest 48 = .ok (.invokevirtual 153, 3) := by decide +kernel
theorem dX9_fewest_51 : decode cX9_fewest 51 = .ok (.iaload, 1) := by decide +kernel
theorem dX9_fewest_52 : decode cX9_fewest 52 = .ok (.ireturn, 1) := by decide +kernel
theorem dX9_firstStep_0 : decode cX9_firstStep 0 = .ok (.iconst 0, 1) := by decide +kernel
theorem dX9_firstStep_1 : decode cX9_firstStep 1 = .ok (.istore_n 2, 1) := by decide +kernel
theorem dX9_firstStep_2 : decode cX9_firstStep 2 = .ok (.iload_n 2, 1) := by decide +kernel
theorem dX9_firstStep_3 : decode cX9_firstStep 3 = .ok (.iconst 4, 1) := by decide +kernel
theorem dX9_firstStep_4 : decode cX9_firstStep 4 = .ok (.aload_n 0, 1) := by decide +kernel
theorem dX9_firstStep_5 : decode cX9_firstStep 5 = .ok (.getfield 17, 3) := by decide +kernel
theorem dX9_firstStep_8 : decode cX9_firstStep 8 = .ok (.imul, 1) := by decide +kernel
theorem dX9_firstStep_9 : decode cX9_firstStep 9 = .ok (.if_icmp .ge 62, 3) := by decide +kernel
theorem dX9_firstStep_12 : decode cX9_firstStep 12 = .ok (.iload_n 1, 1) := by decide +kernel
theorem dX9_firstStep_13 : decode cX9_firstStep 13 = .ok (.iload_n 2, 1) := by decide +kernel
theorem dX9_firstStep_14 : decode cX9_firstStep 14 = .ok (.iconst 4, 1) := by decide +kernel
theorem dX9_firstStep_15 : decode cX9_firstStep 15 = .ok (.idiv, 1) := by decide +kernel
theorem dX9_firstStep_16 : decode cX9_firstStep 16 = .ok (.iload_n 2, 1) := by decide +kernel
theorem dX9_firstStep_17 : decode cX9_firstStep 17 = .ok (.iconst 4, 1) := by decide +kernel
theorem dX9_firstStep_18 : decode cX9_firstStep 18 = .ok (.irem, 1) := by decide +kernel
theorem dX9_firstStep_19 : decode cX9_firstStep 19 = .ok (.invokestatic 157, 3) := by decide +kernel
theorem dX9_firstStep_22 : decode cX9_firstStep 22 = .ok (.istore_n 3, 1) := by decide +kernel
theorem dX9_firstStep_23 : decode cX9_firstStep 23 = .ok (.iload_n 3, 1) := by decide +kernel
theorem dX9_firstStep_24 : decode cX9_firstStep 24 = .ok (.iload_n 1, 1) := by decide +kernel
theorem dX9_firstStep_25 : decode cX9_firstStep 25 = .ok (.if_icmp .eq 40, 3) := by decide +kernel
theorem dX9_firstStep_28 : decode cX9_firstStep 28 = .ok (.aload_n 0, 1) := by decide +kernel
theorem dX9_firstStep_29 : decode cX9_firstStep 29 = .ok (.getfield 60, 3) := by decide +kernel
theorem dX9_firstStep_32 : decode cX9_firstStep 32 = .ok (.iload_n 3, 1) := by decide +kernel
theorem dX9_firstStep_33 : decode cX9_firstStep 33 = .ok (.iaload, 1) := by decide +kernel
theorem dX9_firstStep_34 : decode cX9_firstStep 34 = .ok (.aload_n 0, 1) := by decide +kernel
theorem dX9_firstStep_35 : decode cX9_firstStep 35 = .ok (.getfield 60, 3) := by decide +kernel
theorem dX9_firstStep_38 : decode cX9_firstStep 38 = .ok (.iload_n 1, 1) := by decide +kernel
theorem dX9_firstStep_39 : decode cX9_firstStep 39 = .ok (.iaload, 1) := by decide +kernel
theorem dX9_firstStep_40 : decode cX9_firstStep 40 = .ok (.iconst 1, 1) := by decide +kernel
theorem dX9_firstStep_41 : decode cX9_firstStep 41 = .ok (.isub, 1) := by decide +kernel
theorem dX9_firstStep_42 : decode cX9_firstStep 42 = .ok (.if_icmp .ne 23, 3) := by decide +kernel
theorem dX9_firstStep_45 : decode cX9_firstStep 45 = .ok (.aload_n 0, 1) := by decide +kernel
theorem dX9_firstStep_46 : decode cX9_firstStep 46 = .ok (.getfield 57, 3) := by decide +kernel
theorem dX9_firstStep_49 : decode cX9_firstStep 49 = .ok (.iload_n 3, 1) := by decide +kernel
theorem dX9_firstStep_50 : decode cX9_firstStep 50 = .ok (.iaload, 1) := by decide +kernel
theorem dX9_firstStep_51 : decode cX9_firstStep 51 = .ok (.aload_n 0, 1) := by decide +kernel
theorem dX9_firstStep_52 : decode cX9_firstStep 52 = .ok (.getfield 57, 3) := by decide +kernel
theorem dX9_firstStep_55 : decode cX9_firstStep 55 = .ok (.iload_n 1, 1) := by decide +kernel
theorem dX9_firstStep_56 : decode cX9_firstStep 56 = .ok (.iaload, 1) := by decide +kernel
theorem dX9_firstStep_57 : decode cX9_firstStep 57 = .ok (.iconst (-1), 1) := by decide +kernel
theorem dX9_firstStep_58 : decode cX9_firstStep 58 = .ok (.ixor, 1) := by decide +kernel
theorem dX9_firstStep_59 : decode cX9_firstStep 59 = .ok (.iand, 1) := by decide +kernel
theorem dX9_firstStep_60 : decode cX9_firstStep 60 = .ok (.ifCond .ne 5, 3) := by decide +kernel
theorem dX9_firstStep_63 : decode cX9_firstStep 63 = .ok (.iload_n 2, 1) := by decide +kernel
theorem dX9_firstStep_64 : decode cX9_firstStep 64 = .ok (.ireturn, 1) := by decide +kernel
theorem dX9_firstStep_65 : decode cX9_firstStep 65 = .ok (.iinc 2 1, 3) := by decide +kernel
theorem dX9_firstStep_68 : decode cX9_firstStep 68 = .ok (.goto (-66), 3) := by decide +kernel
theorem dX9_firstStep_71 : decode cX9_firstStep 71 = .ok (.bipush (-9), 2) := by decide +kernel
theorem dX9_firstStep_73 : decode cX9_firstStep 73 = .ok (.ireturn, 1) := by decide +kernel
theorem dX9_step_0 : decode cX9_step 0 = .ok (.aload_n 0, 1) := by decide +kernel
theorem dX9_step_1 : decode cX9_step 1 = .ok (.aload_n 0, 1) := by decide +kernel
theorem dX9_step_2 : decode cX9_step 2 = .ok (.iload_n 1, 1) := by decide +kernel
theorem dX9_step_3 : decode cX9_step 3 = .ok (.invokevirtual 203, 3) := by decide +kernel
theorem dX9_step_6 : decode cX9_step 6 = .ok (.ifCond .ne 7, 3) := by decide +kernel
theorem dX9_step_9 : decode cX9_step 9 = .ok (.iconst 1, 1) := by decide +kernel
theorem dX9_step_10 : decode cX9_step 10 = .ok (.goto 12, 3) := by decide +kernel
theorem dX9_step_13 : decode cX9_step 13 = .ok (.iload_n 2, 1) := by decide +kernel
theorem dX9_step_14 : decode cX9_step 14 = .ok (.ifCond .ge 7, 3) := by decide +kernel
theorem dX9_step_17 : decode cX9_step 17 = .ok (.iconst 2, 1) := by decide +kernel
theorem dX9_step_18 : decode cX9_step 18 = .ok (.goto 4, 3) := by decide +kernel
theorem dX9_step_21 : decode cX9_step 21 = .ok (.iconst 0, 1) := by decide +kernel
theorem dX9_step_22 : decode cX9_step 22 = .ok (.invokevirtual 93, 3) := by decide +kernel
theorem dX9_step_25 : decode cX9_step 25 = .ok (.ifCond .eq 5, 3) := by decide +kernel
theorem dX9_step_28 : decode cX9_step 28 = .ok (.iconst 0, 1) := by decide +kernel
theorem dX9_step_29 : decode cX9_step 29 = .ok (.ireturn, 1) := by decide +kernel
theorem dX9_step_30 : decode cX9_step 30 = .ok (.aload_n 0, 1) := by decide +kernel
theorem dX9_step_31 : decode cX9_step 31 = .ok (.aload_n 0, 1) := by decide +kernel
theorem dX9_step_32 : decode cX9_step 32 = .ok (.aload_n 0, 1) := by decide +kernel
theorem dX9_step_33 : decode cX9_step 33 = .ok (.getfield 41, 3) := by decide +kernel
theorem dX9_step_36 : decode cX9_step 36 = .ok (.iload_n 1, 1) := by decide +kernel
theorem dX9_step_37 : decode cX9_step 37 = .ok (.bipush 6, 2) := by decide +kernel
theorem dX9_step_39 : decode cX9_step 39 = .ok (.invokevirtual 153, 3) := by decide +kernel
theorem dX9_step_42 : decode cX9_step 42 = .ok (.invokevirtual 236, 3) := by decide +kernel
theorem dX9_step_45 : decode cX9_step 45 = .ok (.aload_n 0, 1) := by decide +kernel
theorem dX9_step_46 : decode cX9_step 46 = .ok (.aload_n 0, 1) := by decide +kernel
theorem dX9_step_47 : decode cX9_step 47 = .ok (.getfield 41, 3) := by decide +kernel
theorem dX9_step_50 : decode cX9_step 50 = .ok (.iload_n 1, 1) := by decide +kernel
theorem dX9_step_51 : decode cX9_step 51 = .ok (.iconst 0, 1) := by decide +kernel
theorem dX9_step_52 : decode cX9_step 52 = .ok (.invokevirtual 153, 3) := by decide +kernel
theorem dX9_step_55 : decode cX9_step 55 = .ok (.istore_n 3, 1) := by decide +kernel
theorem dX9_step_56 : decode cX9_step 56 = .ok (.iload_n 2, 1) := by decide +kernel
theorem dX9_step_57 : decode cX9_step 57 = .ok (.aload_n 0, 1) := by decide +kernel
theorem dX9_step_58 : decode cX9_step 58 = .ok (.getfield 60, 3) := by decide +kernel
theorem dX9_step_61 : decode cX9_step 61 = .ok (.iload_n 3, 1) := by decide +kernel
theorem dX9_step_62 : decode cX9_step 62 = .ok (.iaload, 1) := by decide +kernel
theorem dX9_step_63 : decode cX9_step 63 = .ok (.if_icmp .lt 6, 3) := by decide +kernel
theorem dX9_step_66 : decode cX9_step 66 = .ok (.bipush (-9), 2) := by decide +kernel
theorem dX9_step_68 : decode cX9_step 68 = .ok (.ireturn, 1) := by decide +kernel
theorem dX9_step_69 : decode cX9_step 69 = .ok (.aload_n 0, 1) := by decide +kernel
theorem dX9_step_70 : decode cX9_step 70 = .ok (.iload_n 3, 1) := by decide +kernel
theorem dX9_step_71 : decode cX9_step 71 = .ok (.invokevirtual 240, 3) := by decide +kernel
theorem dX9_step_74 : decode cX9_step 74 = .ok (.istore 4, 2) := by decide +kernel
theorem dX9_step_76 : decode cX9_step 76 = .ok (.iconst 0, 1) := by decide +kernel
theorem dX9_step_77 : decode cX9_step 77 = .ok (.istore 5, 2) := by decide +kernel
theorem dX9_step_79 : decode cX9_step 79 = .ok (.iload 5, 2) := by decide +kernel
theorem dX9_step_81 : decode cX9_step 81 = .ok (.iload_n 2, 1) := by decide +kernel
theorem dX9_step_82 : decode cX9_step 82 = .ok (.if_icmp .ge 29, 3) := by decide +kernel
theorem dX9_step_85 : decode cX9_step 85 = .ok (.iload_n 3, 1) := by decide +kernel
theorem dX9_step_86 : decode cX9_step 86 = .ok (.iload 4, 2) := by decide +kernel
theorem dX9_step_88 : decode cX9_step 88 = .ok (.iconst 4, 1) := by decide +kernel
theorem dX9_step_89 : decode cX9_step 89 = .ok (.idiv, 1) := by decide +kernel
theorem dX9_step_90 : decode cX9_step 90 = .ok (.iload 4, 2) := by decide +kernel
theorem dX9_step_92 : decode cX9_step 92 = .ok (.iconst 4, 1) := by decide +kernel
theorem dX9_step_93 : decode cX9_step 93 = .ok (.irem, 1) := by decide +kernel
theorem dX9_step_94 : decode cX9_step 94 = .ok (.invokestatic 157, 3) := by decide +kernel
theorem dX9_step_97 : decode cX9_step 97 = .ok (.istore_n 3, 1) := by decide +kernel
theorem dX9_step_98 : decode cX9_step 98 = .ok (.aload_n 0, 1) := by decide +kernel
theorem dX9_step_99 : decode cX9_step 99 = .ok (.iload_n 3, 1) := by decide +kernel
theorem dX9_step_100 : decode cX9_step 100 = .ok (.invokevirtual 240, 3) := by decide +kernel
theorem dX9_step_103 : decode cX9_step 103 = .ok (.istore 4, 2) := by decide +kernel
theorem dX9_step_105 : decode cX9_step 105 = .ok (.iinc 5 1, 3) := by decide +kernel
theorem dX9_step_108 : decode cX9_step 108 = .ok (.goto (-29), 3) := by decide +kernel
theorem dX9_step_111 : decode cX9_step 111 = .ok (.iload 4, 2) := by decide +kernel
theorem dX9_step_113 : decode cX9_step 113 = .ok (.ireturn, 1) := by decide +kernel
theorem dX9_layNeeds_0 : decode cX9_layNeeds 0 = .ok (.iconst 0, 1) := by decide +kernel
theorem dX9_layNeeds_1 : decode cX9_layNeeds 1 = .ok (.istore_n 3, 1) := by decide +kernel
theorem dX9_layNeeds_2 : decode cX9_layNeeds 2 = .ok (.iload_n 3, 1) := by decide +kernel
theorem dX9_layNeeds_3 : decode cX9_layNeeds 3 = .ok (.bipush 6, 2) := by decide +kernel
theorem dX9_layNeeds_5 : decode cX9_layNeeds 5 = .ok (.if_icmp .ge 25, 3) := by decide +kernel
theorem dX9_layNeeds_8 : decode cX9_layNeeds 8 = .ok (.aload_n 0, 1) := by decide +kernel
theorem dX9_layNeeds_9 : decode cX9_layNeeds 9 = .ok (.getfield 66, 3) := by decide +kernel
theorem dX9_layNeeds_12 : decode cX9_layNeeds 12 = .ok (.iload_n 3, 1) := by decide +kernel
theorem dX9_layNeeds_13 : decode cX9_layNeeds 13 = .ok (.iload_n 3, 1) := by decide +kernel
theorem dX9_layNeeds_14 : decode cX9_layNeeds 14 = .ok (.iload_n 1, 1) := by decide +kernel
theorem dX9_layNeeds_15 : decode cX9_layNeeds 15 = .ok (.if_icmp .ne 7, 3) := by decide +kernel
theorem dX9_layNeeds_18 : decode cX9_layNeeds 18 = .ok (.iload_n 2, 1) := by decide +kernel
theorem dX9_layNeeds_19 : decode cX9_layNeeds 19 = .ok (.goto 4, 3) := by decide +kernel
theorem dX9_layNeeds_22 : decode cX9_layNeeds 22 = .ok (.iconst 0, 1) := by decide +kernel
theorem dX9_layNeeds_23 : decode cX9_layNeeds 23 = .ok (.iastore, 1) := by decide +kernel
theorem dX9_layNeeds_24 : decode cX9_layNeeds 24 = .ok (.iinc 3 1, 3) := by decide +kernel
theorem dX9_layNeeds_27 : decode cX9_layNeeds 27 = .ok (.goto (-25), 3) := by decide +kernel
theorem dX9_layNeeds_30 : decode cX9_layNeeds 30 = .ok (.iconst 1, 1) := by decide +kernel
theorem dX9_layNeeds_31 : decode cX9_layNeeds 31 = .ok (.istore_n 3, 1) := by decide +kernel
theorem dX9_layNeeds_32 : decode cX9_layNeeds 32 = .ok (.iload_n 3, 1) := by decide +kernel
theorem dX9_layNeeds_33 : decode cX9_layNeeds 33 = .ok (.ifCond .eq 119, 3) := by decide +kernel
theorem dX9_layNeeds_36 : decode cX9_layNeeds 36 = .ok (.iconst 0, 1) := by decide +kernel
theorem dX9_layNeeds_37 : decode cX9_layNeeds 37 = .ok (.istore_n 3, 1) := by decide +kernel
theorem dX9_layNeeds_38 : decode cX9_layNeeds 38 = .ok (.iconst 0, 1) := by decide +kernel
theorem dX9_layNeeds_39 : decode cX9_layNeeds 39 = .ok (.istore 4, 2) := by decide +kernel
theorem dX9_layNeeds_41 : decode cX9_layNeeds 41 = .ok (.iload 4, 2) := by decide +kernel
theorem dX9_layNeeds_43 : decode cX9_layNeeds 43 = .ok (.aload_n 0, 1) := by decide +kernel
theorem dX9_layNeeds_44 : decode cX9_layNeeds 44 = .ok (.getfield 146, 3) := by decide +kernel
theorem dX9_layNeeds_47 : decode cX9_layNeeds 47 = .ok (.if_icmp .ge 102, 3) := by decide +kernel
theorem dX9_layNeeds_50 : decode cX9_layNeeds 50 = .ok (.iconst 5, 1) := by decide +kernel
theorem dX9_layNeeds_51 : decode cX9_layNeeds 51 = .ok (.iload 4, 2) := by decide +kernel
theorem dX9_layNeeds_53 : decode cX9_layNeeds 53 = .ok (.imul, 1) := by decide +kernel
theorem dX9_layNeeds_54 : decode cX9_layNeeds 54 = .ok (.istore 5, 2) := by decide +kernel
theorem dX9_layNeeds_56 : decode cX9_layNeeds 56 = .ok (.aload_n 0, 1) := by decide +kernel
theorem dX9_layNeeds_57 : decode cX9_layNeeds 57 = .ok (.getfield 29, 3) := by decide +kernel
theorem dX9_layNeeds_60 : decode cX9_layNeeds 60 = .ok (.iload 5, 2) := by decide +kernel
theorem dX9_layNeeds_62 : decode cX9_layNeeds 62 = .ok (.iaload, 1) := by decide +kernel
theorem dX9_layNeeds_63 : decode cX9_layNeeds 63 = .ok (.ifCond .ne 80, 3) := by decide +kernel
theorem dX9_layNeeds_66 : decode cX9_layNeeds 66 = .ok (.aload_n 0, 1) := by decide +kernel
theorem dX9_layNeeds_67 : decode cX9_layNeeds 67 = .ok (.getfield 66, 3) := by decide +kernel
theorem dX9_layNeeds_70 : decode cX9_layNeeds 70 = .ok (.aload_n 0, 1) := by decide +kernel
theorem dX9_layNeeds_71 : decode cX9_layNeeds 71 = .ok (.getfield 29, 3) := by decide +kernel
theorem dX9_layNeeds_74 : decode cX9_layNeeds 74 = .ok (.iload 5, 2) := by decide +kernel
theorem dX9_layNeeds_76 : decode cX9_layNeeds 76 = .ok (.iconst 1, 1) := by decide +kernel
theorem dX9_layNeeds_77 : decode cX9_layNeeds 77 = .ok (.iadd, 1) := by decide +kernel
theorem dX9_layNeeds_78 : decode cX9_layNeeds 78 = .ok (.iaload, 1) := by decide +kernel
theorem dX9_layNeeds_79 : decode cX9_layNeeds 79 = .ok (.iaload, 1) := by decide +kernel
theorem dX9_layNeeds_80 : decode cX9_layNeeds 80 = .ok (.aload_n 0, 1) := by decide +kernel
theorem dX9_layNeeds_81 : decode cX9_layNeeds 81 = .ok (.getfield 29, 3) := by decide +kernel
theorem dX9_layNeeds_84 : decode cX9_layNeeds 84 = .ok (.iload 5, 2) := by decide +kernel
theorem dX9_layNeeds_86 : decode cX9_layNeeds 86 = .ok (.iconst 2, 1) := by decide +kernel
theorem dX9_layNeeds_87 : decode cX9_layNeeds 87 = .ok (.iadd, 1) := by decide +kernel
theorem dX9_layNeeds_88 : decode cX9_layNeeds 88 = .ok (.iaload, 1) := by decide +kernel
theorem dX9_layNeeds_89 : decode cX9_layNeeds 89 = .ok (.if_icmp .lt 54, 3) := by decide +kernel
theorem dX9_layNeeds_92 : decode cX9_layNeeds 92 = .ok (.aload_n 0, 1) := by decide +kernel
theorem dX9_layNeeds_93 : decode cX9_layNeeds 93 = .ok (.getfield 66, 3) := by decide +kernel
theorem dX9_layNeeds_96 : decode cX9_layNeeds 96 = .ok (.aload_n 0, 1) := by decide +kernel
theorem dX9_layNeeds_97 : decode cX9_layNeeds 97 = .ok (.getfield 29, 3) := by decide +kernel
theorem dX9_layNeeds_100 : decode cX9_layNeeds 100 = .ok (.iload 5, 2) := by decide +kernel
theorem dX9_layNeeds_102 : decode cX9_layNeeds 102 = .ok (.iconst 3, 1) := by decide +kernel
theorem dX9_layNeeds_103 : decode cX9_layNeeds 103 = .ok (.iadd, 1) := by decide +kernel
theorem dX9_layNeeds_104 : decode cX9_layNeeds 104 = .ok (.iaload, 1) := by decide +kernel
theorem dX9_layNeeds_105 : decode cX9_layNeeds 105 = .ok (.iaload, 1) := by decide +kernel
theorem dX9_layNeeds_106 : decode cX9_layNeeds 106 = .ok (.aload_n 0, 1) := by decide +kernel
theorem dX9_layNeeds_107 : decode cX9_layNeeds 107 = .ok (.getfield 29, 3) := by decide +kernel
theorem dX9_layNeeds_110 : decode cX9_layNeeds 110 = .ok (.iload 5, 2) := by decide +kernel
theorem dX9_layNeeds_112 : decode cX9_layNeeds 112 = .ok (.iconst 4, 1) := by decide +kernel
theorem dX9_layNeeds_113 : decode cX9_layNeeds 113 = .ok (.iadd, 1) := by decide +kernel
theorem dX9_layNeeds_114 : decode cX9_layNeeds 114 = .ok (.iaload, 1) := by decide +kernel
theorem dX9_layNeeds_115 : decode cX9_layNeeds 115 = .ok (.if_icmp .ge 28, 3) := by decide +kernel
theorem dX9_layNeeds_118 : decode cX9_layNeeds 118 = .ok (.aload_n 0, 1) := by decide +kernel
theorem dX9_layNeeds_119 : decode cX9_layNeeds 119 = .ok (.getfield 66, 3) := by decide +kernel
theorem dX9_layNeeds_122 : decode cX9_layNeeds 122 = .ok (.aload_n 0, 1) := by decide +kernel
theorem dX9_layNeeds_123 : decode cX9_layNeeds 123 = .ok (.getfield 29, 3) := by decide +kernel
theorem dX9_layNeeds_126 : decode cX9_layNeeds 126 = .ok (.iload 5, 2) := by decide +kernel
theorem dX9_layNeeds_128 : decode cX9_layNeeds 128 = .ok (.iconst 3, 1) := by decide +kernel
theorem dX9_layNeeds_129 : decode cX9_layNeeds 129 = .ok (.iadd, 1) := by decide +kernel
theorem dX9_layNeeds_130 : decode cX9_layNeeds 130 = .ok (.iaload, 1) := by decide +kernel
theorem dX9_layNeeds_131 : decode cX9_layNeeds 131 = .ok (.aload_n 0, 1) := by decide +kernel
theorem dX9_layNeeds_132 : decode cX9_layNeeds 132 = .ok (.getfield 29, 3) := by decide +kernel
theorem dX9_layNeeds_135 : decode cX9_layNeeds 135 = .ok (.iload 5, 2) := by decide +kernel
theorem dX9_layNeeds_137 : decode cX9_layNeeds 137 = .ok (.iconst 4, 1) := by decide +kernel
theorem dX9_layNeeds_138 : decode cX9_layNeeds 138 = .ok (.iadd, 1) := by decide +kernel
theorem dX9_layNeeds_139 : decode cX9_layNeeds 139 = .ok (.iaload, 1) := by decide +kernel
theorem dX9_layNeeds_140 : decode cX9_layNeeds 140 = .ok (.iastore, 1) := by decide +kernel
theorem dX9_layNeeds_141 : decode cX9_layNeeds 141 = .ok (.iconst 1, 1) := by decide +kernel
theorem dX9_layNeeds_142 : decode cX9_layNeeds 142 = .ok (.istore_n 3, 1) := by decide +kernel
theorem dX9_layNeeds_143 : decode cX9_layNeeds 143 = .ok (.iinc 4 1, 3) := by decide +kernel
theorem dX9_layNeeds_146 : decode cX9_layNeeds 146 = .ok (.goto (-105), 3) := by decide +kernel
theorem dX9_layNeeds_149 : decode cX9_layNeeds 149 = .ok (.goto (-117), 3) := by decide +kernel
theorem dX9_layNeeds_152 : decode cX9_layNeeds 152 = .ok (.return_, 1) := by decide +kernel
theorem dX9_needed_0 : decode cX9_needed 0 = .ok (.aload_n 0, 1) := by decide +kernel
theorem dX9_needed_1 : decode cX9_needed 1 = .ok (.aload_n 0, 1) := by decide +kernel
theorem dX9_needed_2 : decode cX9_needed 2 = .ok (.iload_n 1, 1) := by decide +kernel
theorem dX9_needed_3 : decode cX9_needed 3 = .ok (.invokevirtual 211, 3) := by decide +kernel
theorem dX9_needed_6 : decode cX9_needed 6 = .ok (.ifCond .eq 11, 3) := by decide +kernel
theorem dX9_needed_9 : decode cX9_needed 9 = .ok (.aload_n 0, 1) := by decide +kernel
theorem dX9_needed_10 : decode cX9_needed 10 = .ok (.iload_n 3, 1) := by decide +kernel
theorem dX9_needed_11 : decode cX9_needed 11 = .ok (.invokevirtual 211, 3) := by decide +kernel
theorem dX9_needed_14 : decode cX9_needed 14 = .ok (.ifCond .ne 7, 3) := by decide +kernel
theorem dX9_needed_17 : decode cX9_needed 17 = .ok (.iconst 1, 1) := by decide +kernel
theorem dX9_needed_18 : decode cX9_needed 18 = .ok (.goto 15, 3) := by decide +kernel
theorem dX9_needed_21 : decode cX9_needed 21 = .ok (.iload_n 2, 1) := by decide +kernel
theorem dX9_needed_22 : decode cX9_needed 22 = .ok (.invokestatic 216, 3) := by decide +kernel
theorem dX9_needed_25 : decode cX9_needed 25 = .ok (.ifCond .ne 7, 3) := by decide +kernel
theorem dX9_needed_28 : decode cX9_needed 28 = .ok (.iconst 2, 1) := by decide +kernel
theorem dX9_needed_29 : decode cX9_needed 29 = .ok (.goto 4, 3) := by decide +kernel
theorem dX9_needed_32 : decode cX9_needed 32 = .ok (.iconst 0, 1) := by decide +kernel
theorem dX9_needed_33 : decode cX9_needed 33 = .ok (.invokevirtual 93, 3) := by decide +kernel
theorem dX9_needed_36 : decode cX9_needed 36 = .ok (.ifCond .eq 5, 3) := by decide +kernel
theorem dX9_needed_39 : decode cX9_needed 39 = .ok (.iconst 0, 1) := by decide +kernel
theorem dX9_needed_40 : decode cX9_needed 40 = .ok (.ireturn, 1) := by decide +kernel
theorem dX9_needed_41 : decode cX9_needed 41 = .ok (.aload_n 0, 1) := by decide +kernel
theorem dX9_needed_42 : decode cX9_needed 42 = .ok (.iload_n 1, 1) := by decide +kernel
theorem dX9_needed_43 : decode cX9_needed 43 = .ok (.iload_n 2, 1) := by decide +kernel
theorem dX9_needed_44 : decode cX9_needed 44 = .ok (.invokevirtual 243, 3) := by decide +kernel
theorem dX9_needed_47 : decode cX9_needed 47 = .ok (.aload_n 0, 1) := by decide +kernel
theorem dX9_needed_48 : decode cX9_needed 48 = .ok (.getfield 66, 3) := by decide +kernel
theorem dX9_needed_51 : decode cX9_needed 51 = .ok (.iload_n 3, 1) := by decide +kernel
theorem dX9_needed_52 : decode cX9_needed 52 = .ok (.iaload, 1) := by decide +kernel
theorem dX9_needed_53 : decode cX9_needed 53 = .ok (.ireturn, 1) := by decide +kernel
theorem dX9_isPossible_0 : decode cX9_isPossible 0 = .ok (.aload_n 0, 1) := by decide +kernel
theorem dX9_isPossible_1 : decode cX9_isPossible 1 = .ok (.aload_n 0, 1) := by decide +kernel
theorem dX9_isPossible_2 : decode cX9_isPossible 2 = .ok (.iload_n 1, 1) := by decide +kernel
theorem dX9_isPossible_3 : decode cX9_isPossible 3 = .ok (.invokevirtual 211, 3) := by decide +kernel
theorem dX9_isPossible_6 : decode cX9_isPossible 6 = .ok (.ifCond .ne 7, 3) := by decide +kernel
theorem dX9_isPossible_9 : decode cX9_isPossible 9 = .ok (.iconst 1, 1) := by decide +kernel
theorem dX9_isPossible_10 : decode cX9_isPossible 10 = .ok (.goto 15, 3) := by decide +kernel
theorem dX9_isPossible_13 : decode cX9_isPossible 13 = .ok (.iload_n 2, 1) := by decide +kernel
theorem dX9_isPossible_14 : decode cX9_isPossible 14 = .ok (.invokestatic 216, 3) := by decide +kernel
theorem dX9_isPossible_17 : decode cX9_isPossible 17 = .ok (.ifCond .ne 7, 3) := by decide +kernel
theorem dX9_isPossible_20 : decode cX9_isPossible 20 = .ok (.iconst 2, 1) := by decide +kernel
theorem dX9_isPossible_21 : decode cX9_isPossible 21 = .ok (.goto 4, 3) := by decide +kernel
theorem dX9_isPossible_24 : decode cX9_isPossible 24 = .ok (.iconst 0, 1) := by decide +kernel
theorem dX9_isPossible_25 : decode cX9_isPossible 25 = .ok (.invokevirtual 93, 3) := by decide +kernel
theorem dX9_isPossible_28 : decode cX9_isPossible 28 = .ok (.ifCond .eq 5, 3) := by decide +kernel
theorem dX9_isPossible_31 : decode cX9_isPossible 31 = .ok (.iconst 0, 1) := by decide +kernel
theorem dX9_isPossible_32 : decode cX9_isPossible 32 = .ok (.ireturn, 1) := by decide +kernel
theorem dX9_isPossible_33 : decode cX9_isPossible 33 = .ok (.aload_n 0, 1) := by decide +kernel
theorem dX9_isPossible_34 : decode cX9_isPossible 34 = .ok (.iload_n 1, 1) := by decide +kernel
theorem dX9_isPossible_35 : decode cX9_isPossible 35 = .ok (.iload_n 2, 1) := by decide +kernel
theorem dX9_isPossible_36 : decode cX9_isPossible 36 = .ok (.invokevirtual 243, 3) := by decide +kernel
theorem dX9_isPossible_39 : decode cX9_isPossible 39 = .ok (.iconst 1, 1) := by decide +kernel
theorem dX9_isPossible_40 : decode cX9_isPossible 40 = .ok (.istore_n 3, 1) := by decide +kernel
theorem dX9_isPossible_41 : decode cX9_isPossible 41 = .ok (.iconst 0, 1) := by decide +kernel
theorem dX9_isPossible_42 : decode cX9_isPossible 42 = .ok (.istore 4, 2) := by decide +kernel
theorem dX9_isPossible_44 : decode cX9_isPossible 44 = .ok (.iload 4, 2) := by decide +kernel
theorem dX9_isPossible_46 : decode cX9_isPossible 46 = .ok (.aload_n 0, 1) := by decide +kernel
theorem dX9_isPossible_47 : decode cX9_isPossible 47 = .ok (.getfield 146, 3) := by decide +kernel
theorem dX9_isPossible_50 : decode cX9_isPossible 50 = .ok (.if_icmp .ge 88, 3) := by decide +kernel
theorem dX9_isPossible_53 : decode cX9_isPossible 53 = .ok (.iconst 5, 1) := by decide +kernel
theorem dX9_isPossible_54 : decode cX9_isPossible 54 = .ok (.iload 4, 2) := by decide +kernel
theorem dX9_isPossible_56 : decode cX9_isPossible 56 = .ok (.imul, 1) := by decide +kernel
theorem dX9_isPossible_57 : decode cX9_isPossible 57 = .ok (.istore 5, 2) := by decide +kernel
theorem dX9_isPossible_59 : decode cX9_isPossible 59 = .ok (.iload_n 3, 1) := by decide +kernel
theorem dX9_isPossible_60 : decode cX9_isPossible 60 = .ok (.ifCond .eq 70, 3) := by decide +kernel
theorem dX9_isPossible_63 : decode cX9_isPossible 63 = .ok (.aload_n 0, 1) := by decide +kernel
theorem dX9_isPossible_64 : decode cX9_isPossible 64 = .ok (.getfield 29, 3) := by decide +kernel
theorem dX9_isPossible_67 : decode cX9_isPossible 67 = .ok (.iload 5, 2) := by decide +kernel
theorem dX9_isPossible_69 : decode cX9_isPossible 69 = .ok (.iaload, 1) := by decide +kernel
theorem dX9_isPossible_70 : decode cX9_isPossible 70 = .ok (.iconst 1, 1) := by decide +kernel
theorem dX9_isPossible_71 : decode cX9_isPossible 71 = .ok (.if_icmp .ne 55, 3) := by decide +kernel
theorem dX9_isPossible_74 : decode cX9_isPossible 74 = .ok (.aload_n 0, 1) := by decide +kernel
theorem dX9_isPossible_75 : decode cX9_isPossible 75 = .ok (.getfield 66, 3) := by decide +kernel
theorem dX9_isPossible_78 : decode cX9_isPossible 78 = .ok (.aload_n 0, 1) := by decide +kernel
theorem dX9_isPossible_79 : decode cX9_isPossible 79 = .ok (.getfield 29, 3) := by decide +kernel
theorem dX9_isPossible_82 : decode cX9_isPossible 82 = .ok (.iload 5, 2) := by decide +kernel
theorem dX9_isPossible_84 : decode cX9_isPossible 84 = .ok (.iconst 1, 1) := by decide +kernel
theorem dX9_isPossible_85 : decode cX9_isPossible 85 = .ok (.iadd, 1) := by decide +kernel
theorem dX9_isPossible_86 : decode cX9_isPossible 86 = .ok (.iaload, 1) := by decide +kernel
theorem dX9_isPossible_87 : decode cX9_isPossible 87 = .ok (.iaload, 1) := by decide +kernel
theorem dX9_isPossible_88 : decode cX9_isPossible 88 = .ok (.aload_n 0, 1) := by decide +kernel
theorem dX9_isPossible_89 : decode cX9_isPossible 89 = .ok (.getfield 29, 3) := by decide +kernel
theorem dX9_isPossible_92 : decode cX9_isPossible 92 = .ok (.iload 5, 2) := by decide +kernel
theorem dX9_isPossible_94 : decode cX9_isPossible 94 = .ok (.iconst 2, 1) := by decide +kernel
theorem dX9_isPossible_95 : decode cX9_isPossible 95 = .ok (.iadd, 1) := by decide +kernel
theorem dX9_isPossible_96 : decode cX9_isPossible 96 = .ok (.iaload, 1) := by decide +kernel
theorem dX9_isPossible_97 : decode cX9_isPossible 97 = .ok (.if_icmp .lt 29, 3) := by decide +kernel
theorem dX9_isPossible_100 : decode cX9_isPossible 100 = .ok (.aload_n 0, 1) := by decide +kernel
theorem dX9_isPossible_101 : decode cX9_isPossible 101 = .ok (.getfield 66, 3) := by decide +kernel
theorem dX9_isPossible_104 : decode cX9_isPossible 104 = .ok (.aload_n 0, 1) := by decide +kernel
theorem dX9_isPossible_105 : decode cX9_isPossible 105 = .ok (.getfield 29, 3) := by decide +kernel
theorem dX9_isPossible_108 : decode cX9_isPossible 108 = .ok (.iload 5, 2) := by decide +kernel
theorem dX9_isPossible_110 : decode cX9_isPossible 110 = .ok (.iconst 3, 1) := by decide +kernel
theorem dX9_isPossible_111 : decode cX9_isPossible 111 = .ok (.iadd, 1) := by decide +kernel
theorem dX9_isPossible_112 : decode cX9_isPossible 112 = .ok (.iaload, 1) := by decide +kernel
theorem dX9_isPossible_113 : decode cX9_isPossible 113 = .ok (.iaload, 1) := by decide +kernel
theorem dX9_isPossible_114 : decode cX9_isPossible 114 = .ok (.aload_n 0, 1) := by decide +kernel
theorem dX9_isPossible_115 : decode cX9_isPossible 115 = .ok (.getfield 29, 3) := by decide +kernel
theorem dX9_isPossible_118 : decode cX9_isPossible 118 = .ok (.iload 5, 2) := by decide +kernel
theorem dX9_isPossible_120 : decode cX9_isPossible 120 = .ok (.iconst 4, 1) := by decide +kernel
theorem dX9_isPossible_121 : decode cX9_isPossible 121 = .ok (.iadd, 1) := by decide +kernel
theorem dX9_isPossible_122 : decode cX9_isPossible 122 = .ok (.iaload, 1) := by decide +kernel
theorem dX9_isPossible_123 : decode cX9_isPossible 123 = .ok (.if_icmp .ge 7, 3) := by decide +kernel
theorem dX9_isPossible_126 : decode cX9_isPossible 126 = .ok (.iconst 1, 1) := by decide +kernel
theorem dX9_isPossible_127 : decode cX9_isPossible 127 = .ok (.goto 4, 3) := by decide +kernel
theorem dX9_isPossible_130 : decode cX9_isPossible 130 = .ok (.iconst 0, 1) := by decide +kernel
theorem dX9_isPossible_131 : decode cX9_isPossible 131 = .ok (.istore_n 3, 1) := by decide +kernel
theorem dX9_isPossible_132 : decode cX9_isPossible 132 = .ok (.iinc 4 1, 3) := by decide +kernel
theorem dX9_isPossible_135 : decode cX9_isPossible 135 = .ok (.goto (-91), 3) := by decide +kernel
theorem dX9_isPossible_138 : decode cX9_isPossible 138 = .ok (.iload_n 3, 1) := by decide +kernel
theorem dX9_isPossible_139 : decode cX9_isPossible 139 = .ok (.ireturn, 1) := by decide +kernel
theorem dX9_explains_0 : decode cX9_explains 0 = .ok (.aload_n 0, 1) := by decide +kernel
theorem dX9_explains_1 : decode cX9_explains 1 = .ok (.aload_n 0, 1) := by decide +kernel
theorem dX9_explains_2 : decode cX9_explains 2 = .ok (.iload_n 1, 1) := by decide +kernel
theorem dX9_explains_3 : decode cX9_explains 3 = .ok (.invokevirtual 203, 3) := by decide +kernel
theorem dX9_explains_6 : decode cX9_explains 6 = .ok (.ifCond .ne 7, 3) := by decide +kernel
theorem dX9_explains_9 : decode cX9_explains 9 = .ok (.iconst 1, 1) := by decide +kernel
theorem dX9_explains_10 : decode cX9_explains 10 = .ok (.goto 20, 3) := by decide +kernel
theorem dX9_explains_13 : decode cX9_explains 13 = .ok (.iload_n 2, 1) := by decide +kernel
theorem dX9_explains_14 : decode cX9_explains 14 = .ok (.i2l, 1) := by decide +kernel
theorem dX9_explains_15 : decode cX9_explains 15 = .ok (.lconst 0, 1) := by decide +kernel
theorem dX9_explains_16 : decode cX9_explains 16 = .ok (.ldc2_w 247, 3) := by decide +kernel
theorem dX9_explains_19 : decode cX9_explains 19 = .ok (.invokestatic 82, 3) := by decide +kernel
theorem dX9_explains_22 : decode cX9_explains 22 = .ok (.ifCond .ne 7, 3) := by decide +kernel
theorem dX9_explains_25 : decode cX9_explains 25 = .ok (.iconst 2, 1) := by decide +kernel
theorem dX9_explains_26 : decode cX9_explains 26 = .ok (.goto 4, 3) := by decide +kernel
theorem dX9_explains_29 : decode cX9_explains 29 = .ok (.iconst 0, 1) := by decide +kernel
theorem dX9_explains_30 : decode cX9_explains 30 = .ok (.invokevirtual 93, 3) := by decide +kernel
theorem dX9_explains_33 : decode cX9_explains 33 = .ok (.ifCond .eq 5, 3) := by decide +kernel
theorem dX9_explains_36 : decode cX9_explains 36 = .ok (.iconst 0, 1) := by decide +kernel
theorem dX9_explains_37 : decode cX9_explains 37 = .ok (.ireturn, 1) := by decide +kernel
theorem dX9_explains_38 : decode cX9_explains 38 = .ok (.iconst 0, 1) := by decide +kernel
theorem dX9_explains_39 : decode cX9_explains 39 = .ok (.istore_n 3, 1) := by decide +kernel
theorem dX9_explains_40 : decode cX9_explains 40 = .ok (.aload_n 0, 1) := by decide +kernel
theorem dX9_explains_41 : decode cX9_explains 41 = .ok (.aload_n 0, 1) := by decide +kernel
theorem dX9_explains_42 : decode cX9_explains 42 = .ok (.getfield 41, 3) := by decide +kernel
theorem dX9_explains_45 : decode cX9_explains 45 = .ok (.iload_n 1, 1) := by decide +kernel
theorem dX9_explains_46 : decode cX9_explains 46 = .ok (.invokevirtual 200, 3) := by decide +kernel
theorem dX9_explains_49 : decode cX9_explains 49 = .ok (.istore 4, 2) := by decide +kernel
theorem dX9_explains_51 : decode cX9_explains 51 = .ok (.iconst 0, 1) := by decide +kernel
theorem dX9_explains_52 : decode cX9_explains 52 = .ok (.istore 5, 2) := by decide +kernel
theorem dX9_explains_54 : decode cX9_explains 54 = .ok (.iload 5, 2) := by decide +kernel
theorem dX9_explains_56 : decode cX9_explains 56 = .ok (.iconst 4, 1) := by decide +kernel
theorem dX9_explains_57 : decode cX9_explains 57 = .ok (.aload_n 0, 1) := by decide +kernel
theorem dX9_explains_58 : decode cX9_explains 58 = .ok (.getfield 17, 3) := by decide +kernel
theorem dX9_explains_61 : decode cX9_explains 61 = .ok (.imul, 1) := by decide +kernel
theorem dX9_explains_62 : decode cX9_explains 62 = .ok (.if_icmp .ge 80, 3) := by decide +kernel
theorem dX9_explains_65 : decode cX9_explains 65 = .ok (.iload 5, 2) := by decide +kernel
theorem dX9_explains_67 : decode cX9_explains 67 = .ok (.iconst 4, 1) := by decide +kernel
theorem dX9_explains_68 : decode cX9_explains 68 = .ok (.idiv, 1) := by decide +kernel
theorem dX9_explains_69 : decode cX9_explains 69 = .ok (.istore 6, 2) := by decide +kernel
theorem dX9_explains_71 : decode cX9_explains 71 = .ok (.aload_n 0, 1) := by decide +kernel
theorem dX9_explains_72 : decode cX9_explains 72 = .ok (.getfield 41, 3) := by decide +kernel
theorem dX9_explains_75 : decode cX9_explains 75 = .ok (.iload_n 1, 1) := by decide +kernel
theorem dX9_explains_76 : decode cX9_explains 76 = .ok (.invokestatic 126, 3) := by decide +kernel
theorem dX9_explains_79 : decode cX9_explains 79 = .ok (.iload 6, 2) := by decide +kernel
theorem dX9_explains_81 : decode cX9_explains 81 = .ok (.iadd, 1) := by decide +kernel
theorem dX9_explains_82 : decode cX9_explains 82 = .ok (.iaload, 1) := by decide +kernel
theorem dX9_explains_83 : decode cX9_explains 83 = .ok (.istore 7, 2) := by decide +kernel
theorem dX9_explains_85 : decode cX9_explains 85 = .ok (.iload 5, 2) := by decide +kernel
theorem dX9_explains_87 : decode cX9_explains 87 = .ok (.iconst 4, 1) := by decide +kernel
theorem dX9_explains_88 : decode cX9_explains 88 = .ok (.irem, 1) := by decide +kernel
theorem dX9_explains_89 : decode cX9_explains 89 = .ok (.iload 7, 2) := by decide +kernel
theorem dX9_explains_91 : decode cX9_explains 91 = .ok (.if_icmp .eq 26, 3) := by decide +kernel
theorem dX9_explains_94 : decode cX9_explains 94 = .ok (.iload 4, 2) := by decide +kernel
theorem dX9_explains_96 : decode cX9_explains 96 = .ok (.iload 6, 2) := by decide +kernel
theorem dX9_explains_98 : decode cX9_explains 98 = .ok (.iconst 1, 1) := by decide +kernel
theorem dX9_explains_99 : decode cX9_explains 99 = .ok (.iadd, 1) := by decide +kernel
theorem dX9_explains_100 : decode cX9_explains 100 = .ok (.iload 5, 2) := by decide +kernel
theorem dX9_explains_102 : decode cX9_explains 102 = .ok (.iconst 4, 1) := by decide +kernel
theorem dX9_explains_103 : decode cX9_explains 103 = .ok (.irem, 1) := by decide +kernel
theorem dX9_explains_104 : decode cX9_explains 104 = .ok (.iload 7, 2) := by decide +kernel
theorem dX9_explains_106 : decode cX9_explains 106 = .ok (.isub, 1) := by decide +kernel
theorem dX9_explains_107 : decode cX9_explains 107 = .ok (.imul, 1) := by decide +kernel
theorem dX9_explains_108 : decode cX9_explains 108 = .ok (.iadd, 1) := by decide +kernel
theorem dX9_explains_109 : decode cX9_explains 109 = .ok (.iload_n 2, 1) := by decide +kernel
theorem dX9_explains_110 : decode cX9_explains 110 = .ok (.if_icmp .ne 7, 3) := by decide +kernel
theorem dX9_explains_113 : decode cX9_explains 113 = .ok (.iconst 1, 1) := by decide +kernel
theorem dX9_explains_114 : decode cX9_explains 114 = .ok (.goto 4, 3) := by decide +kernel
theorem dX9_explains_117 : decode cX9_explains 117 = .ok (.iconst 0, 1) := by decide +kernel
theorem dX9_explains_118 : decode cX9_explains 118 = .ok (.istore 8, 2) := by decide +kernel
theorem dX9_explains_120 : decode cX9_explains 120 = .ok (.iload_n 3, 1) := by decide +kernel
theorem dX9_explains_121 : decode cX9_explains 121 = .ok (.iload 8, 2) := by decide +kernel
theorem dX9_explains_123 : decode cX9_explains 123 = .ok (.ifCond .eq 10, 3) := by decide +kernel
theorem dX9_explains_126 : decode cX9_explains 126 = .ok (.iconst 1, 1) := by decide +kernel
theorem dX9_explains_127 : decode cX9_explains 127 = .ok (.iload 5, 2) := by decide +kernel
theorem dX9_explains_129 : decode cX9_explains 129 = .ok (.ishl, 1) := by decide +kernel
theorem dX9_explains_130 : decode cX9_explains 130 = .ok (.goto 4, 3) := by decide +kernel
theorem dX9_explains_133 : decode cX9_explains 133 = .ok (.iconst 0, 1) := by decide +kernel
theorem dX9_explains_134 : decode cX9_explains 134 = .ok (.ior, 1) := by decide +kernel
theorem dX9_explains_135 : decode cX9_explains 135 = .ok (.istore_n 3, 1) := by decide +kernel
theorem dX9_explains_136 : decode cX9_explains 136 = .ok (.iinc 5 1, 3) := by decide +kernel
theorem dX9_explains_139 : decode cX9_explains 139 = .ok (.goto (-85), 3) := by decide +kernel
theorem dX9_explains_142 : decode cX9_explains 142 = .ok (.iload_n 3, 1) := by decide +kernel
theorem dX9_explains_143 : decode cX9_explains 143 = .ok (.ireturn, 1) := by decide +kernel
theorem dX9_distance_0 : decode cX9_distance 0 = .ok (.bipush 100, 2) := by decide +kernel
theorem dX9_distance_2 : decode cX9_distance 2 = .ok (.aload_n 0, 1) := by decide +kernel
theorem dX9_distance_3 : decode cX9_distance 3 = .ok (.aload_n 0, 1) := by decide +kernel
theorem dX9_distance_4 : decode cX9_distance 4 = .ok (.getfield 41, 3) := by decide +kernel
theorem dX9_distance_7 : decode cX9_distance 7 = .ok (.iload_n 1, 1) := by decide +kernel
theorem dX9_distance_8 : decode cX9_distance 8 = .ok (.invokevirtual 191, 3) := by decide +kernel
theorem dX9_distance_11 : decode cX9_distance 11 = .ok (.invokestatic 167, 3) := by decide +kernel
theorem dX9_distance_14 : decode cX9_distance 14 = .ok (.imul, 1) := by decide +kernel
theorem dX9_distance_15 : decode cX9_distance 15 = .ok (.aload_n 0, 1) := by decide +kernel
theorem dX9_distance_16 : decode cX9_distance 16 = .ok (.aload_n 0, 1) := by decide +kernel
theorem dX9_distance_17 : decode cX9_distance 17 = .ok (.aload_n 0, 1) := by decide +kernel
theorem dX9_distance_18 : decode cX9_distance 18 = .ok (.getfield 41, 3) := by decide +kernel
theorem dX9_distance_21 : decode cX9_distance 21 = .ok (.iload_n 1, 1) := by decide +kernel
theorem dX9_distance_22 : decode cX9_distance 22 = .ok (.iconst 0, 1) := by decide +kernel
theorem dX9_distance_23 : decode cX9_distance 23 = .ok (.invokevirtual 153, 3) := by decide +kernel
theorem dX9_distance_26 : decode cX9_distance 26 = .ok (.invokevirtual 160, 3) := by decide +kernel
theorem dX9_distance_29 : decode cX9_distance 29 = .ok (.invokestatic 167, 3) := by decide +kernel
theorem dX9_distance_32 : decode cX9_distance 32 = .ok (.iadd, 1) := by decide +kernel
theorem dX9_distance_33 : decode cX9_distance 33 = .ok (.ireturn, 1) := by decide +kernel
theorem dX9_ranked_0 : decode cX9_ranked 0 = .ok (.aload_n 0, 1) := by decide +kernel
theorem dX9_ranked_1 : decode cX9_ranked 1 = .ok (.aload_n 0, 1) := by decide +kernel
theorem dX9_ranked_2 : decode cX9_ranked 2 = .ok (.iload_n 1, 1) := by decide +kernel
theorem dX9_ranked_3 : decode cX9_ranked 3 = .ok (.invokevirtual 203, 3) := by decide +kernel
theorem dX9_ranked_6 : decode cX9_ranked 6 = .ok (.ifCond .eq 7, 3) := by decide +kernel
theorem dX9_ranked_9 : decode cX9_ranked 9 = .ok (.iconst 0, 1) := by decide +kernel
theorem dX9_ranked_10 : decode cX9_ranked 10 = .ok (.goto 4, 3) := by decide +kernel
theorem dX9_ranked_13 : decode cX9_ranked 13 = .ok (.iconst 1, 1) := by decide +kernel
theorem dX9_ranked_14 : decode cX9_ranked 14 = .ok (.invokevirtual 93, 3) := by decide +kernel
theorem dX9_ranked_17 : decode cX9_ranked 17 = .ok (.ifCond .eq 5, 3) := by decide +kernel
theorem dX9_ranked_20 : decode cX9_ranked 20 = .ok (.iconst 0, 1) := by decide +kernel
theorem dX9_ranked_21 : decode cX9_ranked 21 = .ok (.ireturn, 1) := by decide +kernel
theorem dX9_ranked_22 : decode cX9_ranked 22 = .ok (.iconst 0, 1) := by decide +kernel
theorem dX9_ranked_23 : decode cX9_ranked 23 = .ok (.istore_n 2, 1) := by decide +kernel
theorem dX9_ranked_24 : decode cX9_ranked 24 = .ok (.iconst 0, 1) := by decide +kernel
theorem dX9_ranked_25 : decode cX9_ranked 25 = .ok (.istore_n 3, 1) := by decide +kernel
theorem dX9_ranked_26 : decode cX9_ranked 26 = .ok (.iload_n 3, 1) := by decide +kernel
theorem dX9_ranked_27 : decode cX9_ranked 27 = .ok (.aload_n 0, 1) := by decide +kernel
theorem dX9_ranked_28 : decode cX9_ranked 28 = .ok (.getfield 13, 3) := by decide +kernel
theorem dX9_ranked_31 : decode cX9_ranked 31 = .ok (.if_icmp .ge 86, 3) := by decide +kernel
theorem dX9_ranked_34 : decode cX9_ranked 34 = .ok (.iconst 0, 1) := by decide +kernel
theorem dX9_ranked_35 : decode cX9_ranked 35 = .ok (.istore 4, 2) := by decide +kernel
theorem dX9_ranked_37 : decode cX9_ranked 37 = .ok (.iconst 0, 1) := by decide +kernel
theorem dX9_ranked_38 : decode cX9_ranked 38 = .ok (.istore 5, 2) := by decide +kernel
theorem dX9_ranked_40 : decode cX9_ranked 40 = .ok (.iload 5, 2) := by decide +kernel
theorem dX9_ranked_42 : decode cX9_ranked 42 = .ok (.aload_n 0, 1) := by decide +kernel
theorem dX9_ranked_43 : decode cX9_ranked 43 = .ok (.getfield 13, 3) := by decide +kernel
theorem dX9_ranked_46 : decode cX9_ranked 46 = .ok (.if_icmp .ge 53, 3) := by decide +kernel
theorem dX9_ranked_49 : decode cX9_ranked 49 = .ok (.iload 4, 2) := by decide +kernel
theorem dX9_ranked_51 : decode cX9_ranked 51 = .ok (.aload_n 0, 1) := by decide +kernel
theorem dX9_ranked_52 : decode cX9_ranked 52 = .ok (.iload 5, 2) := by decide +kernel
theorem dX9_ranked_54 : decode cX9_ranked 54 = .ok (.invokevirtual 249, 3) := by decide +kernel
theorem dX9_ranked_57 : decode cX9_ranked 57 = .ok (.aload_n 0, 1) := by decide +kernel
theorem dX9_ranked_58 : decode cX9_ranked 58 = .ok (.iload_n 3, 1) := by decide +kernel
theorem dX9_ranked_59 : decode cX9_ranked 59 = .ok (.invokevirtual 249, 3) := by decide +kernel
theorem dX9_ranked_62 : decode cX9_ranked 62 = .ok (.if_icmp .gt 23, 3) := by decide +kernel
theorem dX9_ranked_65 : decode cX9_ranked 65 = .ok (.aload_n 0, 1) := by decide +kernel
theorem dX9_ranked_66 : decode cX9_ranked 66 = .ok (.iload 5, 2) := by decide +kernel
theorem dX9_ranked_68 : decode cX9_ranked 68 = .ok (.invokevirtual 249, 3) := by decide +kernel
theorem dX9_ranked_71 : decode cX9_ranked 71 = .ok (.aload_n 0, 1) := by decide +kernel
theorem dX9_ranked_72 : decode cX9_ranked 72 = .ok (.iload_n 3, 1) := by decide +kernel
theorem dX9_ranked_73 : decode cX9_ranked 73 = .ok (.invokevirtual 249, 3) := by decide +kernel
theorem dX9_ranked_76 : decode cX9_ranked 76 = .ok (.if_icmp .ne 13, 3) := by decide +kernel
theorem dX9_ranked_79 : decode cX9_ranked 79 = .ok (.iload 5, 2) := by decide +kernel
theorem dX9_ranked_81 : decode cX9_ranked 81 = .ok (.iload_n 3, 1) := by decide +kernel
theorem dX9_ranked_82 : decode cX9_ranked 82 = .ok (.if_icmp .ge 7, 3) := by decide +kernel
theorem dX9_ranked_85 : decode cX9_ranked 85 = .ok (.iconst 1, 1) := by decide +kernel
theorem dX9_ranked_86 : decode cX9_ranked 86 = .ok (.goto 4, 3) := by decide +kernel
theorem dX9_ranked_89 : decode cX9_ranked 89 = .ok (.iconst 0, 1) := by decide +kernel
theorem dX9_ranked_90 : decode cX9_ranked 90 = .ok (.iadd, 1) := by decide +kernel
theorem dX9_ranked_91 : decode cX9_ranked 91 = .ok (.istore 4, 2) := by decide +kernel
theorem dX9_ranked_93 : decode cX9_ranked 93 = .ok (.iinc 5 1, 3) := by decide +kernel
theorem dX9_ranked_96 : decode cX9_ranked 96 = .ok (.goto (-56), 3) := by decide +kernel
theorem dX9_ranked_99 : decode cX9_ranked 99 = .ok (.iload 4, 2) := by decide +kernel
theorem dX9_ranked_101 : decode cX9_ranked 101 = .ok (.iload_n 1, 1) := by decide +kernel
theorem dX9_ranked_102 : decode cX9_ranked 102 = .ok (.if_icmp .ne 7, 3) := by decide +kernel
theorem dX9_ranked_105 : decode cX9_ranked 105 = .ok (.iload_n 3, 1) := by decide +kernel
theorem dX9_ranked_106 : decode cX9_ranked 106 = .ok (.goto 4, 3) := by decide +kernel
theorem dX9_ranked_109 : decode cX9_ranked 109 = .ok (.iload_n 2, 1) := by decide +kernel
theorem dX9_ranked_110 : decode cX9_ranked 110 = .ok (.istore_n 2, 1) := by decide +kernel
theorem dX9_ranked_111 : decode cX9_ranked 111 = .ok (.iinc 3 1, 3) := by decide +kernel
theorem dX9_ranked_114 : decode cX9_ranked 114 = .ok (.goto (-88), 3) := by decide +kernel
theorem dX9_ranked_117 : decode cX9_ranked 117 = .ok (.iload_n 2, 1) := by decide +kernel
theorem dX9_ranked_118 : decode cX9_ranked 118 = .ok (.ireturn, 1) := by decide +kernel
theorem dX9_command_0 : decode cX9_command 0 = .ok (.iload_n 1, 1) := by decide +kernel
theorem dX9_command_1 : decode cX9_command 1 = .ok (.bipush 100, 2) := by decide +kernel
theorem dX9_command_3 : decode cX9_command 3 = .ok (.idiv, 1) := by decide +kernel
theorem dX9_command_4 : decode cX9_command 4 = .ok (.bipush 10, 2) := by decide +kernel
theorem dX9_command_6 : decode cX9_command 6 = .ok (.irem, 1) := by decide +kernel
theorem dX9_command_7 : decode cX9_command 7 = .ok (.istore_n 2, 1) := by decide +kernel
theorem dX9_command_8 : decode cX9_command 8 = .ok (.iload_n 1, 1) := by decide +kernel
theorem dX9_command_9 : decode cX9_command 9 = .ok (.bipush 10, 2) := by decide +kernel
theorem dX9_command_11 : decode cX9_command 11 = .ok (.idiv, 1) := by decide +kernel
theorem dX9_command_12 : decode cX9_command 12 = .ok (.bipush 10, 2) := by decide +kernel
theorem dX9_command_14 : decode cX9_command 14 = .ok (.irem, 1) := by decide +kernel
theorem dX9_command_15 : decode cX9_command 15 = .ok (.istore_n 3, 1) := by decide +kernel
theorem dX9_command_16 : decode cX9_command 16 = .ok (.iload_n 1, 1) := by decide +kernel
theorem dX9_command_17 : decode cX9_command 17 = .ok (.bipush 10, 2) := by decide +kernel
theorem dX9_command_19 : decode cX9_command 19 = .ok (.irem, 1) := by decide +kernel
theorem dX9_command_20 : decode cX9_command 20 = .ok (.istore 4, 2) := by decide +kernel
theorem dX9_command_22 : decode cX9_command 22 = .ok (.iload_n 1, 1) := by decide +kernel
theorem dX9_command_23 : decode cX9_command 23 = .ok (.bipush 100, 2) := by decide +kernel
theorem dX9_command_25 : decode cX9_command 25 = .ok (.irem, 1) := by decide +kernel
theorem dX9_command_26 : decode cX9_command 26 = .ok (.istore 5, 2) := by decide +kernel
theorem dX9_command_28 : decode cX9_command 28 = .ok (.aload_n 0, 1) := by decide +kernel
theorem dX9_command_29 : decode cX9_command 29 = .ok (.iload_n 2, 1) := by decide +kernel
theorem dX9_command_30 : decode cX9_command 30 = .ok (.invokevirtual 203, 3) := by decide +kernel
theorem dX9_command_33 : decode cX9_command 33 = .ok (.ifCond .eq 15, 3) := by decide +kernel
theorem dX9_command_36 : decode cX9_command 36 = .ok (.aload_n 0, 1) := by decide +kernel
theorem dX9_command_37 : decode cX9_command 37 = .ok (.iload_n 3, 1) := by decide +kernel
theorem dX9_command_38 : decode cX9_command 38 = .ok (.invokevirtual 211, 3) := by decide +kernel
theorem dX9_command_41 : decode cX9_command 41 = .ok (.ifCond .eq 7, 3) := by decide +kernel
theorem dX9_command_44 : decode cX9_command 44 = .ok (.iconst 1, 1) := by decide +kernel
theorem dX9_command_45 : decode cX9_command 45 = .ok (.goto 4, 3) := by decide +kernel
theorem dX9_command_48 : decode cX9_command 48 = .ok (.iconst 0, 1) := by decide +kernel
theorem dX9_command_49 : decode cX9_command 49 = .ok (.istore 6, 2) := by decide +kernel
theorem dX9_command_51 : decode cX9_command 51 = .ok (.iload_n 1, 1) := by decide +kernel
theorem dX9_command_52 : decode cX9_command 52 = .ok (.sipush 1000, 3) := by decide +kernel
theorem dX9_command_55 : decode cX9_command 55 = .ok (.idiv, 1) := by decide +kernel
theorem dX9_command_56 : decode cX9_command 56 = .ok (.tableswitch 301 1 8 #[48, 48, 94, 139, 197, 227, 254, 280], 48) := by decide +kernel
theorem dX9_command_104 : decode cX9_command 104 = .ok (.iload 6, 2) := by decide +kernel
theorem dX9_command_106 : decode cX9_command 106 = .ok (.ifCond .eq 11, 3) := by decide +kernel
theorem dX9_command_109 : decode cX9_command 109 = .ok (.iload 4, 2) := by decide +kernel
theorem dX9_command_111 : decode cX9_command 111 = .ok (.invokestatic 216, 3) := by decide +kernel
theorem dX9_command_114 : decode cX9_command 114 = .ok (.ifCond .ne 5, 3) := by decide +kernel
theorem dX9_command_117 : decode cX9_command 117 = .ok (.iconst 0, 1) := by decide +kernel
theorem dX9_command_118 : decode cX9_command 118 = .ok (.ireturn, 1) := by decide +kernel
theorem dX9_command_119 : decode cX9_command 119 = .ok (.aload_n 0, 1) := by decide +kernel
theorem dX9_command_120 : decode cX9_command 120 = .ok (.getfield 44, 3) := by decide +kernel
theorem dX9_command_123 : decode cX9_command 123 = .ok (.iload_n 2, 1) := by decide +kernel
theorem dX9_command_124 : decode cX9_command 124 = .ok (.invokestatic 126, 3) := by decide +kernel
theorem dX9_command_127 : decode cX9_command 127 = .ok (.iload_n 1, 1) := by decide +kernel
theorem dX9_command_128 : decode cX9_command 128 = .ok (.sipush 1000, 3) := by decide +kernel
theorem dX9_command_131 : decode cX9_command 131 = .ok (.idiv, 1) := by decide +kernel
theorem dX9_command_132 : decode cX9_command 132 = .ok (.iconst 1, 1) := by decide +kernel
theorem dX9_command_133 : decode cX9_command 133 = .ok (.if_icmp .ne 8, 3) := by decide +kernel
theorem dX9_command_136 : decode cX9_command 136 = .ok (.bipush 6, 2) := by decide +kernel
theorem dX9_command_138 : decode cX9_command 138 = .ok (.goto 4, 3) := by decide +kernel
theorem dX9_command_141 : decode cX9_command 141 = .ok (.iconst 0, 1) := by decide +kernel
theorem dX9_command_142 : decode cX9_command 142 = .ok (.iadd, 1) := by decide +kernel
theorem dX9_command_143 : decode cX9_command 143 = .ok (.iload_n 3, 1) := by decide +kernel
theorem dX9_command_144 : decode cX9_command 144 = .ok (.iadd, 1) := by decide +kernel
theorem dX9_command_145 : decode cX9_command 145 = .ok (.iload 4, 2) := by decide +kernel
theorem dX9_command_147 : decode cX9_command 147 = .ok (.iastore, 1) := by decide +kernel
theorem dX9_command_148 : decode cX9_command 148 = .ok (.iconst 1, 1) := by decide +kernel
theorem dX9_command_149 : decode cX9_command 149 = .ok (.ireturn, 1) := by decide +kernel
theorem dX9_command_150 : decode cX9_command 150 = .ok (.aload_n 0, 1) := by decide +kernel
theorem dX9_command_151 : decode cX9_command 151 = .ok (.iload_n 2, 1) := by decide +kernel
theorem dX9_command_152 : decode cX9_command 152 = .ok (.invokevirtual 211, 3) := by decide +kernel
theorem dX9_command_155 : decode cX9_command 155 = .ok (.ifCond .eq 16, 3) := by decide +kernel
theorem dX9_command_158 : decode cX9_command 158 = .ok (.iload_n 3, 1) := by decide +kernel
theorem dX9_command_159 : decode cX9_command 159 = .ok (.invokestatic 216, 3) := by decide +kernel
theorem dX9_command_162 : decode cX9_command 162 = .ok (.ifCond .eq 9, 3) := by decide +kernel
theorem dX9_command_165 : decode cX9_command 165 = .ok (.iload 4, 2) := by decide +kernel
theorem dX9_command_167 : decode cX9_command 167 = .ok (.iconst 5, 1) := by decide +kernel
theorem dX9_command_168 : decode cX9_command 168 = .ok (.if_icmp .lt 5, 3) := by decide +kernel
theorem dX9_command_171 : decode cX9_command 171 = .ok (.iconst 0, 1) := by decide +kernel
theorem dX9_command_172 : decode cX9_command 172 = .ok (.ireturn, 1) := by decide +kernel
theorem dX9_command_173 : decode cX9_command 173 = .ok (.aload_n 0, 1) := by decide +kernel
theorem dX9_command_174 : decode cX9_command 174 = .ok (.getfield 44, 3) := by decide +kernel
theorem dX9_command_177 : decode cX9_command 177 = .ok (.iload_n 2, 1) := by decide +kernel
theorem dX9_command_178 : decode cX9_command 178 = .ok (.invokestatic 119, 3) := by decide +kernel
theorem dX9_command_181 : decode cX9_command 181 = .ok (.iconst 1, 1) := by decide +kernel
theorem dX9_command_182 : decode cX9_command 182 = .ok (.iadd, 1) := by decide +kernel
theorem dX9_command_183 : decode cX9_command 183 = .ok (.iload_n 3, 1) := by decide +kernel
theorem dX9_command_184 : decode cX9_command 184 = .ok (.iadd, 1) := by decide +kernel
theorem dX9_command_185 : decode cX9_command 185 = .ok (.dup2, 1) := by decide +kernel
theorem dX9_command_186 : decode cX9_command 186 = .ok (.iaload, 1) := by decide +kernel
theorem dX9_command_187 : decode cX9_command 187 = .ok (.iconst 1, 1) := by decide +kernel
theorem dX9_command_188 : decode cX9_command 188 = .ok (.iload 4, 2) := by decide +kernel
theorem dX9_command_190 : decode cX9_command 190 = .ok (.ishl, 1) := by decide +kernel
theorem dX9_command_191 : decode cX9_command 191 = .ok (.ior, 1) := by decide +kernel
theorem dX9_command_192 : decode cX9_command 192 = .ok (.iastore, 1) := by decide +kernel
theorem dX9_command_193 : decode cX9_command 193 = .ok (.iconst 1, 1) := by decide +kernel
theorem dX9_command_194 : decode cX9_command 194 = .ok (.ireturn, 1) := by decide +kernel
theorem dX9_command_195 : decode cX9_command 195 = .ok (.iconst 0, 1) := by decide +kernel
theorem dX9_command_196 : decode cX9_command 196 = .ok (.istore 7, 2) := by decide +kernel
theorem dX9_command_198 : decode cX9_command 198 = .ok (.iload 7, 2) := by decide +kernel
theorem dX9_command_200 : decode cX9_command 200 = .ok (.iload 5, 2) := by decide +kernel
theorem dX9_command_202 : decode cX9_command 202 = .ok (.if_icmp .ge 28, 3) := by decide +kernel
theorem dX9_command_205 : decode cX9_command 205 = .ok (.iload_n 2, 1) := by decide +kernel
theorem dX9_command_206 : decode cX9_command 206 = .ok (.ifCond .ne 24, 3) := by decide +kernel
theorem dX9_command_209 : decode cX9_command 209 = .ok (.iload 5, 2) := by decide +kernel
theorem dX9_command_211 : decode cX9_command 211 = .ok (.bipush 50, 2) := by decide +kernel
theorem dX9_command_213 : decode cX9_command 213 = .ok (.if_icmp .gt 17, 3) := by decide +kernel
theorem dX9_command_216 : decode cX9_command 216 = .ok (.aload_n 0, 1) := by decide +kernel
theorem dX9_command_217 : decode cX9_command 217 = .ok (.aload_n 0, 1) := by decide +kernel
theorem dX9_command_218 : decode cX9_command 218 = .ok (.getfield 44, 3) := by decide +kernel
theorem dX9_command_221 : decode cX9_command 221 = .ok (.invokevirtual 230, 3) := by decide +kernel
theorem dX9_command_224 : decode cX9_command 224 = .ok (.iinc 7 1, 3) := by decide +kernel
theorem dX9_command_227 : decode cX9_command 227 = .ok (.goto (-29), 3) := by decide +kernel
theorem dX9_command_230 : decode cX9_command 230 = .ok (.iload_n 2, 1) := by decide +kernel
theorem dX9_command_231 : decode cX9_command 231 = .ok (.ifCond .ne 20, 3) := by decide +kernel
theorem dX9_command_234 : decode cX9_command 234 = .ok (.iload 5, 2) := by decide +kernel
theorem dX9_command_236 : decode cX9_command 236 = .ok (.i2l, 1) := by decide +kernel
theorem dX9_command_237 : decode cX9_command 237 = .ok (.lconst 1, 1) := by decide +kernel
theorem dX9_command_238 : decode cX9_command 238 = .ok (.ldc2_w 228, 3) := by decide +kernel
theorem dX9_command_241 : decode cX9_command 241 = .ok (.invokestatic 82, 3) := by decide +kernel
theorem dX9_command_244 : decode cX9_command 244 = .ok (.ifCond .eq 7, 3) := by decide +kernel
theorem dX9_command_247 : decode cX9_command 247 = .ok (.iconst 1, 1) := by decide +kernel
theorem dX9_command_248 : decode cX9_command 248 = .ok (.goto 4, 3) := by decide +kernel
theorem dX9_command_251 : decode cX9_command 251 = .ok (.iconst 0, 1) := by decide +kernel
theorem dX9_command_252 : decode cX9_command 252 = .ok (.ireturn, 1) := by decide +kernel
theorem dX9_command_253 : decode cX9_command 253 = .ok (.aload_n 0, 1) := by decide +kernel
theorem dX9_command_254 : decode cX9_command 254 = .ok (.iload_n 2, 1) := by decide +kernel
theorem dX9_command_255 : decode cX9_command 255 = .ok (.invokevirtual 203, 3) := by decide +kernel
theorem dX9_command_258 : decode cX9_command 258 = .ok (.ifCond .eq 7, 3) := by decide +kernel
theorem dX9_command_261 : decode cX9_command 261 = .ok (.iload_n 3, 1) := by decide +kernel
theorem dX9_command_262 : decode cX9_command 262 = .ok (.ifCond .eq 5, 3) := by decide +kernel
theorem dX9_command_265 : decode cX9_command 265 = .ok (.iconst 0, 1) := by decide +kernel
theorem dX9_command_266 : decode cX9_command 266 = .ok (.ireturn, 1) := by decide +kernel
theorem dX9_command_267 : decode cX9_command 267 = .ok (.aload_n 0, 1) := by decide +kernel
theorem dX9_command_268 : decode cX9_command 268 = .ok (.getfield 44, 3) := by decide +kernel
theorem dX9_command_271 : decode cX9_command 271 = .ok (.iload_n 2, 1) := by decide +kernel
theorem dX9_command_272 : decode cX9_command 272 = .ok (.invokestatic 126, 3) := by decide +kernel
theorem dX9_command_275 : decode cX9_command 275 = .ok (.bipush 12, 2) := by decide +kernel
theorem dX9_command_277 : decode cX9_command 277 = .ok (.iadd, 1) := by decide +kernel
theorem dX9_command_278 : decode cX9_command 278 = .ok (.iload 4, 2) := by decide +kernel
theorem dX9_command_280 : decode cX9_command 280 = .ok (.iastore, 1) := by decide +kernel
theorem dX9_command_281 : decode cX9_command 281 = .ok (.iconst 1, 1) := by decide +kernel
theorem dX9_command_282 : decode cX9_command 282 = .ok (.ireturn, 1) := by decide +kernel
theorem dX9_command_283 : decode cX9_command 283 = .ok (.iload 6, 2) := by decide +kernel
theorem dX9_command_285 : decode cX9_command 285 = .ok (.ifCond .eq 23, 3) := by decide +kernel
theorem dX9_command_288 : decode cX9_command 288 = .ok (.aload_n 0, 1) := by decide +kernel
theorem dX9_command_289 : decode cX9_command 289 = .ok (.getfield 44, 3) := by decide +kernel
theorem dX9_command_292 : decode cX9_command 292 = .ok (.iload_n 2, 1) := by decide +kernel
theorem dX9_command_293 : decode cX9_command 293 = .ok (.invokestatic 126, 3) := by decide +kernel
theorem dX9_command_296 : decode cX9_command 296 = .ok (.iload_n 3, 1) := by decide +kernel
theorem dX9_command_297 : decode cX9_command 297 = .ok (.iadd, 1) := by decide +kernel
theorem dX9_command_298 : decode cX9_command 298 = .ok (.iaload, 1) := by decide +kernel
theorem dX9_command_299 : decode cX9_command 299 = .ok (.iload 4, 2) := by decide +kernel
theorem dX9_command_301 : decode cX9_command 301 = .ok (.if_icmp .ne 7, 3) := by decide +kernel
theorem dX9_command_304 : decode cX9_command 304 = .ok (.iconst 1, 1) := by decide +kernel
theorem dX9_command_305 : decode cX9_command 305 = .ok (.goto 4, 3) := by decide +kernel
theorem dX9_command_308 : decode cX9_command 308 = .ok (.iconst 0, 1) := by decide +kernel
theorem dX9_command_309 : decode cX9_command 309 = .ok (.ireturn, 1) := by decide +kernel
theorem dX9_command_310 : decode cX9_command 310 = .ok (.iload 6, 2) := by decide +kernel
theorem dX9_command_312 : decode cX9_command 312 = .ok (.ifCond .eq 22, 3) := by decide +kernel
theorem dX9_command_315 : decode cX9_command 315 = .ok (.aload_n 0, 1) := by decide +kernel
theorem dX9_command_316 : decode cX9_command 316 = .ok (.aload_n 0, 1) := by decide +kernel
theorem dX9_command_317 : decode cX9_command 317 = .ok (.getfield 44, 3) := by decide +kernel
theorem dX9_command_320 : decode cX9_command 320 = .ok (.iload_n 2, 1) := by decide +kernel
theorem dX9_command_321 : decode cX9_command 321 = .ok (.iload_n 3, 1) := by decide +kernel
theorem dX9_command_322 : decode cX9_command 322 = .ok (.invokevirtual 184, 3) := by decide +kernel
theorem dX9_command_325 : decode cX9_command 325 = .ok (.iload 4, 2) := by decide +kernel
theorem dX9_command_327 : decode cX9_command 327 = .ok (.if_icmp .ne 7, 3) := by decide +kernel
theorem dX9_command_330 : decode cX9_command 330 = .ok (.iconst 1, 1) := by decide +kernel
theorem dX9_command_331 : decode cX9_command 331 = .ok (.goto 4, 3) := by decide +kernel
theorem dX9_command_334 : decode cX9_command 334 = .ok (.iconst 0, 1) := by decide +kernel
theorem dX9_command_335 : decode cX9_command 335 = .ok (.ireturn, 1) := by decide +kernel
theorem dX9_command_336 : decode cX9_command 336 = .ok (.iload_n 2, 1) := by decide +kernel
theorem dX9_command_337 : decode cX9_command 337 = .ok (.ifCond .ne 18, 3) := by decide +kernel
theorem dX9_command_340 : decode cX9_command 340 = .ok (.aload_n 0, 1) := by decide +kernel
theorem dX9_command_341 : decode cX9_command 341 = .ok (.getfield 44, 3) := by decide +kernel
theorem dX9_command_344 : decode cX9_command 344 = .ok (.iconst 1, 1) := by decide +kernel
theorem dX9_command_345 : decode cX9_command 345 = .ok (.iaload, 1) := by decide +kernel
theorem dX9_command_346 : decode cX9_command 346 = .ok (.iload 5, 2) := by decide +kernel
theorem dX9_command_348 : decode cX9_command 348 = .ok (.if_icmp .lt 7, 3) := by decide +kernel
theorem dX9_command_351 : decode cX9_command 351 = .ok (.iconst 1, 1) := by decide +kernel
theorem dX9_command_352 : decode cX9_command 352 = .ok (.goto 4, 3) := by decide +kernel
theorem dX9_command_355 : decode cX9_command 355 = .ok (.iconst 0, 1) := by decide +kernel
theorem dX9_command_356 : decode cX9_command 356 = .ok (.ireturn, 1) := by decide +kernel
theorem dX9_command_357 : decode cX9_command 357 = .ok (.iconst 0, 1) := by decide +kernel
theorem dX9_command_358 : decode cX9_command 358 = .ok (.ireturn, 1) := by decide +kernel
theorem dX9_groups_0 : decode cX9_groups 0 = .ok (.lconst 1, 1) := by decide +kernel
theorem dX9_groups_1 : decode cX9_groups 1 = .ok (.lstore_n 1, 1) := by decide +kernel
theorem dX9_groups_2 : decode cX9_groups 2 = .ok (.iconst 0, 1) := by decide +kernel
theorem dX9_groups_3 : decode cX9_groups 3 = .ok (.istore_n 3, 1) := by decide +kernel
theorem dX9_groups_4 : decode cX9_groups 4 = .ok (.iload_n 3, 1) := by decide +kernel
theorem dX9_groups_5 : decode cX9_groups 5 = .ok (.iload_n 0, 1) := by decide +kernel
theorem dX9_groups_6 : decode cX9_groups 6 = .ok (.if_icmp .ge 15, 3) := by decide +kernel
theorem dX9_groups_9 : decode cX9_groups 9 = .ok (.lload_n 1, 1) := by decide +kernel
theorem dX9_groups_10 : decode cX9_groups 10 = .ok (.ldc2_w 252, 3) := by decide +kernel
theorem dX9_groups_13 : decode cX9_groups 13 = .ok (.lmul, 1) := by decide +kernel
theorem dX9_groups_14 : decode cX9_groups 14 = .ok (.lstore_n 1, 1) := by decide +kernel
theorem dX9_groups_15 : decode cX9_groups 15 = .ok (.iinc 3 1, 3) := by decide +kernel
theorem dX9_groups_18 : decode cX9_groups 18 = .ok (.goto (-14), 3) := by decide +kernel
theorem dX9_groups_21 : decode cX9_groups 21 = .ok (.lload_n 1, 1) := by decide +kernel
theorem dX9_groups_22 : decode cX9_groups 22 = .ok (.lreturn, 1) := by decide +kernel
theorem dX9_runScript_0 : decode cX9_runScript 0 = .ok (.aload_n 0, 1) := by decide +kernel
theorem dX9_runScript_1 : decode cX9_runScript 1 = .ok (.iload_n 1, 1) := by decide +kernel
theorem dX9_runScript_2 : decode cX9_runScript 2 = .ok (.i2l, 1) := by decide +kernel
theorem dX9_runScript_3 : decode cX9_runScript 3 = .ok (.lconst 1, 1) := by decide +kernel
theorem dX9_runScript_4 : decode cX9_runScript 4 = .ok (.ldc2_w 214, 3) := by decide +kernel
theorem dX9_runScript_7 : decode cX9_runScript 7 = .ok (.invokestatic 82, 3) := by decide +kernel
theorem dX9_runScript_10 : decode cX9_runScript 10 = .ok (.ifCond .eq 21, 3) := by decide +kernel
theorem dX9_runScript_13 : decode cX9_runScript 13 = .ok (.lload_n 2, 1) := by decide +kernel
theorem dX9_runScript_14 : decode cX9_runScript 14 = .ok (.lconst 0, 1) := by decide +kernel
theorem dX9_runScript_15 : decode cX9_runScript 15 = .ok (.iload_n 1, 1) := by decide +kernel
theorem dX9_runScript_16 : decode cX9_runScript 16 = .ok (.invokestatic 254, 3) := by decide +kernel
theorem dX9_runScript_19 : decode cX9_runScript 19 = .ok (.lconst 1, 1) := by decide +kernel
theorem dX9_runScript_20 : decode cX9_runScript 20 = .ok (.lsub, 1) := by decide +kernel
theorem dX9_runScript_21 : decode cX9_runScript 21 = .ok (.invokestatic 82, 3) := by decide +kernel
theorem dX9_runScript_24 : decode cX9_runScript 24 = .ok (.ifCond .eq 7, 3) := by decide +kernel
theorem dX9_runScript_27 : decode cX9_runScript 27 = .ok (.iconst 0, 1) := by decide +kernel
theorem dX9_runScript_28 : decode cX9_runScript 28 = .ok (.goto 4, 3) := by decide +kernel
theorem dX9_runScript_31 : decode cX9_runScript 31 = .ok (.iconst 1, 1) := by decide +kernel
theorem dX9_runScript_32 : decode cX9_runScript 32 = .ok (.invokevirtual 93, 3) := by decide +kernel
theorem dX9_runScript_35 : decode cX9_runScript 35 = .ok (.ifCond .eq 5, 3) := by decide +kernel
theorem dX9_runScript_38 : decode cX9_runScript 38 = .ok (.iconst 0, 1) := by decide +kernel
theorem dX9_runScript_39 : decode cX9_runScript 39 = .ok (.ireturn, 1) := by decide +kernel
theorem dX9_runScript_40 : decode cX9_runScript 40 = .ok (.aload_n 0, 1) := by decide +kernel
theorem dX9_runScript_41 : decode cX9_runScript 41 = .ok (.getfield 41, 3) := by decide +kernel
theorem dX9_runScript_44 : decode cX9_runScript 44 = .ok (.iconst 0, 1) := by decide +kernel
theorem dX9_runScript_45 : decode cX9_runScript 45 = .ok (.aload_n 0, 1) := by decide +kernel
theorem dX9_runScript_46 : decode cX9_runScript 46 = .ok (.getfield 44, 3) := by decide +kernel
theorem dX9_runScript_49 : decode cX9_runScript 49 = .ok (.iconst 0, 1) := by decide +kernel
theorem dX9_runScript_50 : decode cX9_runScript 50 = .ok (.bipush 107, 2) := by decide +kernel
theorem dX9_runScript_52 : decode cX9_runScript 52 = .ok (.invokestatic 75, 3) := by decide +kernel
theorem dX9_runScript_55 : decode cX9_runScript 55 = .ok (.iconst 0, 1) := by decide +kernel
theorem dX9_runScript_56 : decode cX9_runScript 56 = .ok (.istore 4, 2) := by decide +kernel
theorem dX9_runScript_58 : decode cX9_runScript 58 = .ok (.iload 4, 2) := by decide +kernel
theorem dX9_runScript_60 : decode cX9_runScript 60 = .ok (.iload_n 1, 1) := by decide +kernel
theorem dX9_runScript_61 : decode cX9_runScript 61 = .ok (.if_icmp .ge 35, 3) := by decide +kernel
theorem dX9_runScript_64 : decode cX9_runScript 64 = .ok (.aload_n 0, 1) := by decide +kernel
theorem dX9_runScript_65 : decode cX9_runScript 65 = .ok (.lload_n 2, 1) := by decide +kernel
theorem dX9_runScript_66 : decode cX9_runScript 66 = .ok (.iload_n 1, 1) := by decide +kernel
theorem dX9_runScript_67 : decode cX9_runScript 67 = .ok (.iconst 1, 1) := by decide +kernel
theorem dX9_runScript_68 : decode cX9_runScript 68 = .ok (.isub, 1) := by decide +kernel
theorem dX9_runScript_69 : decode cX9_runScript 69 = .ok (.iload 4, 2) := by decide +kernel
theorem dX9_runScript_71 : decode cX9_runScript 71 = .ok (.isub, 1) := by decide +kernel
theorem dX9_runScript_72 : decode cX9_runScript 72 = .ok (.invokestatic 254, 3) := by decide +kernel
theorem dX9_runScript_75 : decode cX9_runScript 75 = .ok (.ldiv, 1) := by decide +kernel
theorem dX9_runScript_76 : decode cX9_runScript 76 = .ok (.ldc2_w 252, 3) := by decide +kernel
theorem dX9_runScript_79 : decode cX9_runScript 79 = .ok (.lrem, 1) := by decide +kernel
theorem dX9_runScript_80 : decode cX9_runScript 80 = .ok (.l2i, 1) := by decide +kernel
theorem dX9_runScript_81 : decode cX9_runScript 81 = .ok (.invokevirtual 258, 3) := by decide +kernel
theorem dX9_runScript_84 : decode cX9_runScript 84 = .ok (.ifCond .ne 6, 3) := by decide +kernel
theorem dX9_runScript_87 : decode cX9_runScript 87 = .ok (.iload 4, 2) := by decide +kernel
theorem dX9_runScript_89 : decode cX9_runScript 89 = .ok (.ireturn, 1) := by decide +kernel
theorem dX9_runScript_90 : decode cX9_runScript 90 = .ok (.iinc 4 1, 3) := by decide +kernel
theorem dX9_runScript_93 : decode cX9_runScript 93 = .ok (.goto (-35), 3) := by decide +kernel
theorem dX9_runScript_96 : decode cX9_runScript 96 = .ok (.bipush (-9), 2) := by decide +kernel
theorem dX9_runScript_98 : decode cX9_runScript 98 = .ok (.ireturn, 1) := by decide +kernel
theorem dX9_simulate_0 : decode cX9_simulate 0 = .ok (.aload_n 0, 1) := by decide +kernel
theorem dX9_simulate_1 : decode cX9_simulate 1 = .ok (.iload_n 3, 1) := by decide +kernel
theorem dX9_simulate_2 : decode cX9_simulate 2 = .ok (.i2l, 1) := by decide +kernel
theorem dX9_simulate_3 : decode cX9_simulate 3 = .ok (.lconst 1, 1) := by decide +kernel
theorem dX9_simulate_4 : decode cX9_simulate 4 = .ok (.ldc2_w 261, 3) := by decide +kernel
theorem dX9_simulate_7 : decode cX9_simulate 7 = .ok (.invokestatic 82, 3) := by decide +kernel
theorem dX9_simulate_10 : decode cX9_simulate 10 = .ok (.ifCond .eq 7, 3) := by decide +kernel
theorem dX9_simulate_13 : decode cX9_simulate 13 = .ok (.iconst 0, 1) := by decide +kernel
theorem dX9_simulate_14 : decode cX9_simulate 14 = .ok (.goto 4, 3) := by decide +kernel
theorem dX9_simulate_17 : decode cX9_simulate 17 = .ok (.iconst 1, 1) := by decide +kernel
theorem dX9_simulate_18 : decode cX9_simulate 18 = .ok (.invokevirtual 93, 3) := by decide +kernel
theorem dX9_simulate_21 : decode cX9_simulate 21 = .ok (.ifCond .eq 5, 3) := by decide +kernel
theorem dX9_simulate_24 : decode cX9_simulate 24 = .ok (.iconst 0, 1) := by decide +kernel
theorem dX9_simulate_25 : decode cX9_simulate 25 = .ok (.ireturn, 1) := by decide +kernel
theorem dX9_simulate_26 : decode cX9_simulate 26 = .ok (.aload_n 0, 1) := by decide +kernel
theorem dX9_simulate_27 : decode cX9_simulate 27 = .ok (.getfield 41, 3) := by decide +kernel
theorem dX9_simulate_30 : decode cX9_simulate 30 = .ok (.iconst 0, 1) := by decide +kernel
theorem dX9_simulate_31 : decode cX9_simulate 31 = .ok (.aload_n 0, 1) := by decide +kernel
theorem dX9_simulate_32 : decode cX9_simulate 32 = .ok (.getfield 44, 3) := by decide +kernel
theorem dX9_simulate_35 : decode cX9_simulate 35 = .ok (.iconst 0, 1) := by decide +kernel
theorem dX9_simulate_36 : decode cX9_simulate 36 = .ok (.bipush 107, 2) := by decide +kernel
theorem dX9_simulate_38 : decode cX9_simulate 38 = .ok (.invokestatic 75, 3) := by decide +kernel
theorem dX9_simulate_41 : decode cX9_simulate 41 = .ok (.lload_n 1, 1) := by decide +kernel
theorem dX9_simulate_42 : decode cX9_simulate 42 = .ok (.lstore 4, 2) := by decide +kernel
theorem dX9_simulate_44 : decode cX9_simulate 44 = .ok (.aload_n 0, 1) := by decide +kernel
theorem dX9_simulate_45 : decode cX9_simulate 45 = .ok (.getfield 44, 3) := by decide +kernel
theorem dX9_simulate_48 : decode cX9_simulate 48 = .ok (.iconst 1, 1) := by decide +kernel
theorem dX9_simulate_49 : decode cX9_simulate 49 = .ok (.iaload, 1) := by decide +kernel
theorem dX9_simulate_50 : decode cX9_simulate 50 = .ok (.istore 6, 2) := by decide +kernel
theorem dX9_simulate_52 : decode cX9_simulate 52 = .ok (.iconst 0, 1) := by decide +kernel
theorem dX9_simulate_53 : decode cX9_simulate 53 = .ok (.istore 7, 2) := by decide +kernel
theorem dX9_simulate_55 : decode cX9_simulate 55 = .ok (.iload 7, 2) := by decide +kernel
theorem dX9_simulate_57 : decode cX9_simulate 57 = .ok (.iload_n 3, 1) := by decide +kernel
theorem dX9_simulate_58 : decode cX9_simulate 58 = .ok (.if_icmp .ge 113, 3) := by decide +kernel
theorem dX9_simulate_61 : decode cX9_simulate 61 = .ok (.lload 4, 2) := by decide +kernel
theorem dX9_simulate_63 : decode cX9_simulate 63 = .ok (.ldc2_w 263, 3) := by decide +kernel
theorem dX9_simulate_66 : decode cX9_simulate 66 = .ok (.lmul, 1) := by decide +kernel
theorem dX9_simulate_67 : decode cX9_simulate 67 = .ok (.ldc2_w 265, 3) := by decide +kernel
theorem dX9_simulate_70 : decode cX9_simulate 70 = .ok (.ladd, 1) := by decide +kernel
theorem dX9_simulate_71 : decode cX9_simulate 71 = .ok (.lstore 4, 2) := by decide +kernel
theorem dX9_simulate_73 : decode cX9_simulate 73 = .ok (.lload 4, 2) := by decide +kernel
theorem dX9_simulate_75 : decode cX9_simulate 75 = .ok (.bipush 33, 2) := by decide +kernel
theorem dX9_simulate_77 : decode cX9_simulate 77 = .ok (.lushr, 1) := by decide +kernel
theorem dX9_simulate_78 : decode cX9_simulate 78 = .ok (.l2i, 1) := by decide +kernel
theorem dX9_simulate_79 : decode cX9_simulate 79 = .ok (.istore 8, 2) := by decide +kernel
theorem dX9_simulate_81 : decode cX9_simulate 81 = .ok (.iload 8, 2) := by decide +kernel
theorem dX9_simulate_83 : decode cX9_simulate 83 = .ok (.bipush 64, 2) := by decide +kernel
theorem dX9_simulate_85 : decode cX9_simulate 85 = .ok (.idiv, 1) := by decide +kernel
theorem dX9_simulate_86 : decode cX9_simulate 86 = .ok (.aload_n 0, 1) := by decide +kernel
theorem dX9_simulate_87 : decode cX9_simulate 87 = .ok (.getfield 13, 3) := by decide +kernel
theorem dX9_simulate_90 : decode cX9_simulate 90 = .ok (.irem, 1) := by decide +kernel
theorem dX9_simulate_91 : decode cX9_simulate 91 = .ok (.istore 9, 2) := by decide +kernel
theorem dX9_simulate_93 : decode cX9_simulate 93 = .ok (.iload 8, 2) := by decide +kernel
theorem dX9_simulate_95 : decode cX9_simulate 95 = .ok (.iconst 3, 1) := by decide +kernel
theorem dX9_simulate_96 : decode cX9_simulate 96 = .ok (.irem, 1) := by decide +kernel
theorem dX9_simulate_97 : decode cX9_simulate 97 = .ok (.ifCond .ne 31, 3) := by decide +kernel
theorem dX9_simulate_100 : decode cX9_simulate 100 = .ok (.aload_n 0, 1) := by decide +kernel
theorem dX9_simulate_101 : decode cX9_simulate 101 = .ok (.getfield 44, 3) := by decide +kernel
theorem dX9_simulate_104 : decode cX9_simulate 104 = .ok (.iload 9, 2) := by decide +kernel
theorem dX9_simulate_106 : decode cX9_simulate 106 = .ok (.invokestatic 126, 3) := by decide +kernel
theorem dX9_simulate_109 : decode cX9_simulate 109 = .ok (.iload 8, 2) := by decide +kernel
theorem dX9_simulate_111 : decode cX9_simulate 111 = .ok (.iconst 4, 1) := by decide +kernel
theorem dX9_simulate_112 : decode cX9_simulate 112 = .ok (.idiv, 1) := by decide +kernel
theorem dX9_simulate_113 : decode cX9_simulate 113 = .ok (.aload_n 0, 1) := by decide +kernel
theorem dX9_simulate_114 : decode cX9_simulate 114 = .ok (.getfield 17, 3) := by decide +kernel
theorem dX9_simulate_117 : decode cX9_simulate 117 = .ok (.irem, 1) := by decide +kernel
theorem dX9_simulate_118 : decode cX9_simulate 118 = .ok (.iadd, 1) := by decide +kernel
theorem dX9_simulate_119 : decode cX9_simulate 119 = .ok (.iload 8, 2) := by decide +kernel
theorem dX9_simulate_121 : decode cX9_simulate 121 = .ok (.sipush 1024, 3) := by decide +kernel
theorem dX9_simulate_124 : decode cX9_simulate 124 = .ok (.idiv, 1) := by decide +kernel
theorem dX9_simulate_125 : decode cX9_simulate 125 = .ok (.iconst 4, 1) := by decide +kernel
theorem dX9_simulate_126 : decode cX9_simulate 126 = .ok (.irem, 1) := by decide +kernel
theorem dX9_simulate_127 : decode cX9_simulate 127 = .ok (.iastore, 1) := by decide +kernel
theorem dX9_simulate_128 : decode cX9_simulate 128 = .ok (.iload 8, 2) := by decide +kernel
theorem dX9_simulate_130 : decode cX9_simulate 130 = .ok (.iconst 3, 1) := by decide +kernel
theorem dX9_simulate_131 : decode cX9_simulate 131 = .ok (.irem, 1) := by decide +kernel
theorem dX9_simulate_132 : decode cX9_simulate 132 = .ok (.iconst 1, 1) := by decide +kernel
theorem dX9_simulate_133 : decode cX9_simulate 133 = .ok (.if_icmp .ne 24, 3) := by decide +kernel
theorem dX9_simulate_136 : decode cX9_simulate 136 = .ok (.aload_n 0, 1) := by decide +kernel
theorem dX9_simulate_137 : decode cX9_simulate 137 = .ok (.getfield 44, 3) := by decide +kernel
theorem dX9_simulate_140 : decode cX9_simulate 140 = .ok (.iload 9, 2) := by decide +kernel
theorem dX9_simulate_142 : decode cX9_simulate 142 = .ok (.invokestatic 126, 3) := by decide +kernel
theorem dX9_simulate_145 : decode cX9_simulate 145 = .ok (.bipush 12, 2) := by decide +kernel
theorem dX9_simulate_147 : decode cX9_simulate 147 = .ok (.iadd, 1) := by decide +kernel
theorem dX9_simulate_148 : decode cX9_simulate 148 = .ok (.iload 8, 2) := by decide +kernel
theorem dX9_simulate_150 : decode cX9_simulate 150 = .ok (.sipush 4096, 3) := by decide +kernel
theorem dX9_simulate_153 : decode cX9_simulate 153 = .ok (.idiv, 1) := by decide +kernel
theorem dX9_simulate_154 : decode cX9_simulate 154 = .ok (.iconst 4, 1) := by decide +kernel
theorem dX9_simulate_155 : decode cX9_simulate 155 = .ok (.irem, 1) := by decide +kernel
theorem dX9_simulate_156 : decode cX9_simulate 156 = .ok (.iastore, 1) := by decide +kernel
theorem dX9_simulate_157 : decode cX9_simulate 157 = .ok (.aload_n 0, 1) := by decide +kernel
theorem dX9_simulate_158 : decode cX9_simulate 158 = .ok (.aload_n 0, 1) := by decide +kernel
theorem dX9_simulate_159 : decode cX9_simulate 159 = .ok (.getfield 44, 3) := by decide +kernel
theorem dX9_simulate_162 : decode cX9_simulate 162 = .ok (.invokevirtual 230, 3) := by decide +kernel
theorem dX9_simulate_165 : decode cX9_simulate 165 = .ok (.iinc 7 1, 3) := by decide +kernel
theorem dX9_simulate_168 : decode cX9_simulate 168 = .ok (.goto (-113), 3) := by decide +kernel
theorem dX9_simulate_171 : decode cX9_simulate 171 = .ok (.aload_n 0, 1) := by decide +kernel
theorem dX9_simulate_172 : decode cX9_simulate 172 = .ok (.getfield 44, 3) := by decide +kernel
theorem dX9_simulate_175 : decode cX9_simulate 175 = .ok (.iconst 1, 1) := by decide +kernel
theorem dX9_simulate_176 : decode cX9_simulate 176 = .ok (.iaload, 1) := by decide +kernel
theorem dX9_simulate_177 : decode cX9_simulate 177 = .ok (.iload 6, 2) := by decide +kernel
theorem dX9_simulate_179 : decode cX9_simulate 179 = .ok (.isub, 1) := by decide +kernel
theorem dX9_simulate_180 : decode cX9_simulate 180 = .ok (.sipush 1000, 3) := by decide +kernel
theorem dX9_simulate_183 : decode cX9_simulate 183 = .ok (.aload_n 0, 1) := by decide +kernel
theorem dX9_simulate_184 : decode cX9_simulate 184 = .ok (.getfield 13, 3) := by decide +kernel
theorem dX9_simulate_187 : decode cX9_simulate 187 = .ok (.aload_n 0, 1) := by decide +kernel
theorem dX9_simulate_188 : decode cX9_simulate 188 = .ok (.aload_n 0, 1) := by decide +kernel
theorem dX9_simulate_189 : decode cX9_simulate 189 = .ok (.getfield 44, 3) := by decide +kernel
theorem dX9_simulate_192 : decode cX9_simulate 192 = .ok (.invokevirtual 196, 3) := by decide +kernel
theorem dX9_simulate_195 : decode cX9_simulate 195 = .ok (.invokestatic 167, 3) := by decide +kernel
theorem dX9_simulate_198 : decode cX9_simulate 198 = .ok (.isub, 1) := by decide +kernel
theorem dX9_simulate_199 : decode cX9_simulate 199 = .ok (.imul, 1) := by decide +kernel
theorem dX9_simulate_200 : decode cX9_simulate 200 = .ok (.iadd, 1) := by decide +kernel
theorem dX9_simulate_201 : decode cX9_simulate 201 = .ok (.ireturn, 1) := by decide +kernel
theorem dX9_save_0 : decode cX9_save 0 = .ok (.aload_n 0, 1) := by decide +kernel
theorem dX9_save_1 : decode cX9_save 1 = .ok (.iload_n 1, 1) := by decide +kernel
theorem dX9_save_2 : decode cX9_save 2 = .ok (.i2l, 1) := by decide +kernel
theorem dX9_save_3 : decode cX9_save 3 = .ok (.lconst 0, 1) := by decide +kernel
theorem dX9_save_4 : decode cX9_save 4 = .ok (.lconst 1, 1) := by decide +kernel
theorem dX9_save_5 : decode cX9_save 5 = .ok (.invokestatic 82, 3) := by decide +kernel
theorem dX9_save_8 : decode cX9_save 8 = .ok (.ifCond .eq 7, 3) := by decide +kernel
theorem dX9_save_11 : decode cX9_save 11 = .ok (.iconst 0, 1) := by decide +kernel
theorem dX9_save_12 : decode cX9_save 12 = .ok (.goto 4, 3) := by decide +kernel
theorem dX9_save_15 : decode cX9_save 15 = .ok (.iconst 1, 1) := by decide +kernel
theorem dX9_save_16 : decode cX9_save 16 = .ok (.invokevirtual 93, 3) := by decide +kernel
theorem dX9_save_19 : decode cX9_save 19 = .ok (.ifCond .eq 5, 3) := by decide +kernel
theorem dX9_save_22 : decode cX9_save 22 = .ok (.iconst 0, 1) := by decide +kernel
theorem dX9_save_23 : decode cX9_save 23 = .ok (.ireturn, 1) := by decide +kernel
theorem dX9_save_24 : decode cX9_save 24 = .ok (.aload_n 0, 1) := by decide +kernel
theorem dX9_save_25 : decode cX9_save 25 = .ok (.getfield 53, 3) := by decide +kernel
theorem dX9_save_28 : decode cX9_save 28 = .ok (.iload_n 1, 1) := by decide +kernel
theorem dX9_save_29 : decode cX9_save 29 = .ok (.iconst 1, 1) := by decide +kernel
theorem dX9_save_30 : decode cX9_save 30 = .ok (.bastore, 1) := by decide +kernel
theorem dX9_save_31 : decode cX9_save 31 = .ok (.aload_n 0, 1) := by decide +kernel
theorem dX9_save_32 : decode cX9_save 32 = .ok (.getfield 41, 3) := by decide +kernel
theorem dX9_save_35 : decode cX9_save 35 = .ok (.iconst 0, 1) := by decide +kernel
theorem dX9_save_36 : decode cX9_save 36 = .ok (.aload_n 0, 1) := by decide +kernel
theorem dX9_save_37 : decode cX9_save 37 = .ok (.getfield 50, 3) := by decide +kernel
theorem dX9_save_40 : decode cX9_save 40 = .ok (.bipush 107, 2) := by decide +kernel
theorem dX9_save_42 : decode cX9_save 42 = .ok (.iload_n 1, 1) := by decide +kernel
theorem dX9_save_43 : decode cX9_save 43 = .ok (.imul, 1) := by decide +kernel
theorem dX9_save_44 : decode cX9_save 44 = .ok (.bipush 107, 2) := by decide +kernel
theorem dX9_save_46 : decode cX9_save 46 = .ok (.invokestatic 75, 3) := by decide +kernel
theorem dX9_save_49 : decode cX9_save 49 = .ok (.aload_n 0, 1) := by decide +kernel
theorem dX9_save_50 : decode cX9_save 50 = .ok (.getfield 41, 3) := by decide +kernel
theorem dX9_save_53 : decode cX9_save 53 = .ok (.iconst 0, 1) := by decide +kernel
theorem dX9_save_54 : decode cX9_save 54 = .ok (.iaload, 1) := by decide +kernel
theorem dX9_save_55 : decode cX9_save 55 = .ok (.ireturn, 1) := by decide +kernel
theorem dX9_restore_0 : decode cX9_restore 0 = .ok (.aload_n 0, 1) := by decide +kernel
theorem dX9_restore_1 : decode cX9_restore 1 = .ok (.iload_n 1, 1) := by decide +kernel
theorem dX9_restore_2 : decode cX9_restore 2 = .ok (.i2l, 1) := by decide +kernel
theorem dX9_restore_3 : decode cX9_restore 3 = .ok (.lconst 0, 1) := by decide +kernel
theorem dX9_restore_4 : decode cX9_restore 4 = .ok (.lconst 1, 1) := by decide +kernel
theorem dX9_restore_5 : decode cX9_restore 5 = .ok (.invokestatic 82, 3) := by decide +kernel
theorem dX9_restore_8 : decode cX9_restore 8 = .ok (.ifCond .ne 7, 3) := by decide +kernel
theorem dX9_restore_11 : decode cX9_restore 11 = .ok (.iconst 1, 1) := by decide +kernel
theorem dX9_restore_12 : decode cX9_restore 12 = .ok (.goto 17, 3) := by decide +kernel
theorem dX9_restore_15 : decode cX9_restore 15 = .ok (.aload_n 0, 1) := by decide +kernel
theorem dX9_restore_16 : decode cX9_restore 16 = .ok (.getfield 53, 3) := by decide +kernel
theorem dX9_restore_19 : decode cX9_restore 19 = .ok (.iload_n 1, 1) := by decide +kernel
theorem dX9_restore_20 : decode cX9_restore 20 = .ok (.baload, 1) := by decide +kernel
theorem dX9_restore_21 : decode cX9_restore 21 = .ok (.ifCond .ne 7, 3) := by decide +kernel
theorem dX9_restore_24 : decode cX9_restore 24 = .ok (.iconst 2, 1) := by decide +kernel
theorem dX9_restore_25 : decode cX9_restore 25 = .ok (.goto 4, 3) := by decide +kernel
theorem dX9_restore_28 : decode cX9_restore 28 = .ok (.iconst 0, 1) := by decide +kernel
theorem dX9_restore_29 : decode cX9_restore 29 = .ok (.invokevirtual 93, 3) := by decide +kernel
theorem dX9_restore_32 : decode cX9_restore 32 = .ok (.ifCond .eq 5, 3) := by decide +kernel
theorem dX9_restore_35 : decode cX9_restore 35 = .ok (.iconst 0, 1) := by decide +kernel
theorem dX9_restore_36 : decode cX9_restore 36 = .ok (.ireturn, 1) := by decide +kernel
theorem dX9_restore_37 : decode cX9_restore 37 = .ok (.aload_n 0, 1) := by decide +kernel
theorem dX9_restore_38 : decode cX9_restore 38 = .ok (.getfield 50, 3) := by decide +kernel
theorem dX9_restore_41 : decode cX9_restore 41 = .ok (.bipush 107, 2) := by decide +kernel
theorem dX9_restore_43 : decode cX9_restore 43 = .ok (.iload_n 1, 1) := by decide +kernel
theorem dX9_restore_44 : decode cX9_restore 44 = .ok (.imul, 1) := by decide +kernel
theorem dX9_restore_45 : decode cX9_restore 45 = .ok (.aload_n 0, 1) := by decide +kernel
theorem dX9_restore_46 : decode cX9_restore 46 = .ok (.getfield 41, 3) := by decide +kernel
theorem dX9_restore_49 : decode cX9_restore 49 = .ok (.iconst 0, 1) := by decide +kernel
theorem dX9_restore_50 : decode cX9_restore 50 = .ok (.bipush 107, 2) := by decide +kernel
theorem dX9_restore_52 : decode cX9_restore 52 = .ok (.invokestatic 75, 3) := by decide +kernel
theorem dX9_restore_55 : decode cX9_restore 55 = .ok (.aload_n 0, 1) := by decide +kernel
theorem dX9_restore_56 : decode cX9_restore 56 = .ok (.iconst 0, 1) := by decide +kernel
theorem dX9_restore_57 : decode cX9_restore 57 = .ok (.putfield 72, 3) := by decide +kernel
theorem dX9_restore_60 : decode cX9_restore 60 = .ok (.aload_n 0, 1) := by decide +kernel
theorem dX9_restore_61 : decode cX9_restore 61 = .ok (.getfield 41, 3) := by decide +kernel
theorem dX9_restore_64 : decode cX9_restore 64 = .ok (.iconst 0, 1) := by decide +kernel
theorem dX9_restore_65 : decode cX9_restore 65 = .ok (.iaload, 1) := by decide +kernel
theorem dX9_restore_66 : decode cX9_restore 66 = .ok (.ireturn, 1) := by decide +kernel
end
section
def sk_list : List (Nat × Nat × List Nat) := [
  (6, 0, [2, 0, 3, 9, 14, 17, 25, 33, 147, 148]), (8, 160, []), (4, 0, [0, 0, 0, 0, 0, 4, 5, 6, 7, 8, 2, 0, 0, 0]), (9, 5, []),
  (9, 6, []), (9, 50, []), (9, 5, []), (9, 5, []),
  (1, 0, [0, 0, 0, 0, 10, 11]), (9, 5, []), (2, 0, [12, 13, 0, 0]), (9, 50, []),
  (9, 4096, []), (5, 0, [9, 15, 16, 0, 0, 0]), (9, 4096, []), (9, 4096, []),
  (3, 0, [9, 18, 19, 20, 21, 22, 23, 24, 0, 0]), (9, 5, []), (9, 5, []), (9, 5, []),
  (9, 5, []), (9, 5, []), (9, 6, []), (9, 24, []),
  (3, 0, [9, 26, 27, 28, 29, 30, 31, 32, 0, 0]), (9, 5, []), (9, 5, []), (9, 5, []),
  (9, 5, []), (9, 5, []), (9, 6, []), (9, 24, []),
  (0, 0, [34, 0, 0]), (11, 14, [34, 42, 50, 58, 66, 74, 82, 90, 98, 106, 114, 122, 130, 138]), (3, 0, [9, 36, 37, 38, 39, 40, 41, 42, 0, 0]), (9, 5, []),
  (9, 5, []), (9, 5, []), (9, 5, []), (9, 5, []),
  (9, 6, []), (9, 24, []), (3, 0, [9, 44, 45, 46, 47, 48, 49, 50, 0, 0]), (9, 5, []),
  (9, 5, []), (9, 5, []), (9, 5, []), (9, 5, []),
  (9, 6, []), (9, 24, []), (3, 0, [9, 52, 53, 54, 55, 56, 57, 58, 0, 0]), (9, 5, []),
  (9, 5, []), (9, 5, []), (9, 5, []), (9, 5, []),
  (9, 6, []), (9, 24, []), (3, 0, [9, 60, 61, 62, 63, 64, 65, 66, 0, 0]), (9, 5, []),
  (9, 5, []), (9, 5, []), (9, 5, []), (9, 5, []),
  (9, 6, []), (9, 24, []), (3, 0, [9, 68, 69, 70, 71, 72, 73, 74, 0, 0]), (9, 5, []),
  (9, 5, []), (9, 5, []), (9, 5, []), (9, 5, []),
  (9, 6, []), (9, 24, []), (3, 0, [9, 76, 77, 78, 79, 80, 81, 82, 0, 0]), (9, 5, []),
  (9, 5, []), (9, 5, []), (9, 5, []), (9, 5, []),
  (9, 6, []), (9, 24, []), (3, 0, [9, 84, 85, 86, 87, 88, 89, 90, 0, 0]), (9, 5, []),
  (9, 5, []), (9, 5, []), (9, 5, []), (9, 5, []),
  (9, 6, []), (9, 24, []), (3, 0, [9, 92, 93, 94, 95, 96, 97, 98, 0, 0]), (9, 5, []),
  (9, 5, []), (9, 5, []), (9, 5, []), (9, 5, []),
  (9, 6, []), (9, 24, []), (3, 0, [9, 100, 101, 102, 103, 104, 105, 106, 0, 0]), (9, 5, []),
  (9, 5, []), (9, 5, []), (9, 5, []), (9, 5, []),
  (9, 6, []), (9, 24, []), (3, 0, [9, 108, 109, 110, 111, 112, 113, 114, 0, 0]), (9, 5, []),
  (9, 5, []), (9, 5, []), (9, 5, []), (9, 5, []),
  (9, 6, []), (9, 24, []), (3, 0, [9, 116, 117, 118, 119, 120, 121, 122, 0, 0]), (9, 5, []),
  (9, 5, []), (9, 5, []), (9, 5, []), (9, 5, []),
  (9, 6, []), (9, 24, []), (3, 0, [9, 124, 125, 126, 127, 128, 129, 130, 0, 0]), (9, 5, []),
  (9, 5, []), (9, 5, []), (9, 5, []), (9, 5, []),
  (9, 6, []), (9, 24, []), (3, 0, [9, 132, 133, 134, 135, 136, 137, 138, 0, 0]), (9, 5, []),
  (9, 5, []), (9, 5, []), (9, 5, []), (9, 5, []),
  (9, 6, []), (9, 24, []), (3, 0, [9, 140, 141, 142, 143, 144, 145, 146, 0, 0]), (9, 5, []),
  (9, 5, []), (9, 5, []), (9, 5, []), (9, 5, []),
  (9, 6, []), (9, 24, []), (11, 2, [148, 156]), (10, 2, []),
  (3, 0, [9, 150, 151, 152, 153, 154, 155, 156, 0, 0]), (9, 5, []), (9, 5, []), (9, 5, []),
  (9, 5, []), (9, 5, []), (9, 6, []), (9, 24, []),
  (3, 0, [9, 158, 159, 160, 161, 162, 163, 164, 0, 0]), (9, 5, []), (9, 5, []), (9, 5, []),
  (9, 5, []), (9, 5, []), (9, 6, []), (9, 24, []),
  (7, 0, [0, 166, 0, 0, 0, 0, 0, 0, 0, 167, 168, 0, 0, 0, 0, 0, 169, 170, 171, 172, 173, 174, 0, 175, 176, 177, 178, 179, 180]), (9, 160, []), (9, 5, []), (9, 50, []),
  (9, 5, []), (9, 50, []), (9, 107, []), (9, 107, []),
  (9, 107, []), (9, 1498, []), (9, 214, []), (10, 2, []),
  (9, 4096, []), (9, 4096, []), (9, 4096, []), (9, 6, []),
  (12, 1, [])]
abbrev vwCl : List vw_C := [(RX2, TX2, 3), (RX3, TX3, 6), (RX4, TX4, 4), (RX5, TX5, 10), (RX6, TX6, 14), (RX7, TX7, 6), (RX8, TX8, 10), (RX9, TX9, 29)]
/-! ===== the memory: a logical address and an index give an int; the layout is fixed ===== -/
abbrev MM : Type := Nat → Nat → Int32
abbrev GG : Type := Nat → Int64
def mrow (F : MM) (a : Nat) (g : Nat → Int32) : MM := fun b => if b = a then g else F b
def mup (F : MM) (a i : Nat) (v : Int32) : MM := mrow F a (upd (F a) i v)
theorem mrow_self (F : MM) (a : Nat) (g : Nat → Int32) : mrow F a g a = g := if_pos rfl
theorem mrow_ne {F : MM} {a b : Nat} {g : Nat → Int32} (h : b ≠ a) : mrow F a g b = F b := if_neg h
theorem mup_self (F : MM) (a i : Nat) (v : Int32) : mup F a i v a = upd (F a) i v := if_pos rfl
theorem mup_ne {F : MM} {a b i : Nat} {v : Int32} (h : b ≠ a) : mup F a i v b = F b := if_neg h
abbrev ix (i : Int32) : Nat := i.toNatClampNeg
def inb (i : Int32) (n : Nat) : Bool := !(decide (i < 0)) && decide (i.toNatClampNeg < n)
theorem inb_in {i : Int32} {n : Nat} (h : inb i n = true) : vp_in i n := by
  simp only [inb, Bool.and_eq_true, Bool.not_eq_true', decide_eq_false_iff_not, decide_eq_true_eq] at h
  rintro (h1 | h1)
  · exact h.1 h1
  · omega
theorem ite_some {α : Type} {c : Prop} [Decidable c] {x : Option α} {r : α} (h : (if c then x else none) = some r) : c ∧ x = some r := by
  by_cases hc : c
  · rw [if_pos hc] at h; exact ⟨hc, h⟩
  · rw [if_neg hc] at h; cases h
theorem bind_some {α β : Type} {x : Option α} {f : α → Option β} {r : β} (h : x.bind f = some r) : ∃ a, x = some a ∧ f a = some r := by
  cases x with
  | none => cases h
  | some a => exact ⟨a, rfl, h⟩
/-- a value with its references at their true addresses -/
def rv_ (ρ : Nat → Nat) : Value → Value
  | .ref k => .ref (ρ k)
  | v => v
theorem rv_cat (ρ : Nat → Nat) (v : Value) : (rv_ ρ v).category = v.category := by cases v <;> rfl
def sk_at (aC : Nat → ClassId) (ρ : Nat → Nat) (F : MM) (G : GG) (a : Nat) : (Nat × Nat × List Nat) → va_E
  | (8, n, _) => .inl (aC 8, n, .inl (F a))
  | (9, n, _) => .inl (aC 9, n, .inl (F a))
  | (10, n, _) => .inl (aC 10, n, .inl (F a))
  | (11, n, rs) => .inl (aC 11, n, .inr (.inr (.inr (.inr (fun j => (rs[j]?).map ρ)))))
  | (12, n, _) => .inl (aC 12, n, .inr (.inl G))
  | (k, _, rs) => .inr (k, rs.mapIdx (fun i r => if r = 0 then .int (F a i) else .ref (ρ (r - 1))))
def wld (aC : Nat → ClassId) (ρ : Nat → Nat) (F : MM) (G : GG) : va_W := sk_list.mapIdx (fun a d => (ρ a, sk_at aC ρ F G a d))
theorem wld_at {aC : Nat → ClassId} {ρ : Nat → Nat} {F : MM} {G : GG} {a : Nat} {d : Nat × Nat × List Nat} (h : sk_list[a]? = some d) : (wld aC ρ F G)[a]? = some (ρ a, sk_at aC ρ F G a d) := by
  unfold wld
  rw [List.getElem?_mapIdx, h]
  rfl
theorem wld_set {aC : Nat → ClassId} {ρ : Nat → Nat} {F F' : MM} {G G' : GG} {a : Nat} {d : Nat × Nat × List Nat} {x : va_E} (h : sk_list[a]? = some d) (hx : sk_at aC ρ F' G' a d = x) (ho : ∀ b e, b ≠ a → sk_list[b]? = some e → sk_at aC ρ F' G' b e = sk_at aC ρ F G b e) :
    (wld aC ρ F G).set a (ρ a, x) = wld aC ρ F' G' := by
  have hl : a < (wld aC ρ F G).length := (List.getElem?_eq_some_iff.mp (wld_at (aC := aC) (ρ := ρ) (F := F) (G := G) h)).1
  refine List.ext_getElem? fun j => ?_
  by_cases hj : j = a
  · subst hj
    rw [List.getElem?_set_self hl, wld_at h, hx]
  · rw [List.getElem?_set_ne (Ne.symm hj)]
    cases hs : sk_list[j]? with
    | none => unfold wld; rw [List.getElem?_mapIdx, List.getElem?_mapIdx, hs]; rfl
    | some e => rw [wld_at hs, wld_at hs, ho j e hj hs]
/-- only the ints of address a differ -/
theorem sk_row {aC : Nat → ClassId} {ρ : Nat → Nat} {F F' : MM} {G : GG} {b : Nat} (hF : F' b = F b) (e : Nat × Nat × List Nat) : sk_at aC ρ F' G b e = sk_at aC ρ F G b e := by
  unfold sk_at
  split <;> simp only [hF]
/-! ===== the standing things ===== -/
abbrev CX : Type := Launch × Nat × (Nat → Nat) × (Nat → ClassId) × va_G
abbrev MX : Type := Program × Env × Room × State × MethodId × Array Value × List Frame × Method × Code
def tys_ (aC : Nat → ClassId) : List (ClassId × FieldType) := [(aC 8, .char), (aC 9, .int), (aC 10, .boolean), (aC 11, .object RX5), (aC 12, .long)]
def GW (w : Cond) : Prop := w ∈ lw_tbl ∧ goodWord w = true
def ex_iae : String := "java/lang/IllegalArgumentException"
def ex_ise : String := "java/lang/IllegalStateException"
def ex_ioo : String := "java/lang/IndexOutOfBoundsException"
/-- words that stay true but aren't of the good kind -/
def bw_list : List Cond := [.castable ex_iae ex_iae, .castable ex_ise ex_ise, .castable ex_ioo ex_ioo]
def st_list : List (Nat × String) := [(73, "the text is full"), (82, "the text is not a keeper text"), (126, "there is no such number"), (181, "the approver approves of it already"), (195, "the node is not quarantined"), (207, "no state is remembered"), (236, "the index is negative"), (256, "the script is negative or too long"), (274, "the slot is empty"), (278, "there is no such node"), (281, "there is no such component"), (283, "there is no such rule"), (285, "there is no such approver"), (287, "there is no such slot"), (289, "an argument is out of its range")]
def nc_list : List (String × String) := [(ex_iae, ex_ise), (ex_iae, ex_ioo), (ex_ise, ex_iae), (ex_ise, ex_ioo), (ex_ioo, ex_iae), (ex_ioo, ex_ise)]
def bw_nest : Cond := .fieldLinkNest RX1 9 RX5 "plan" "LDesiredStateKeeper$Plan;" RX8
def XK (C : CX) (s : State) : Prop :=
  va_K C.2.2.2.2 vwCl (tys_ C.2.2.2.1) s ∧ C.2.1 ≤ s.heap.size ∧ vx_Zq Bundle.tN "UNASSIGNED_STACK" Bundle.steD (fun q => C.2.1 ≤ q) s s.heap ∧ vx_Zq Bundle.tN "SUPPRESSED_SENTINEL" Bundle.listD (fun q => C.2.1 ≤ q) s s.heap ∧
  (∀ q ∈ st_list, ∃ sa, vk_R RX8 q.1 q.2 sa s) ∧ (∀ w ∈ bw_list, va_Nw w s) ∧ va_Nw bw_nest s ∧ C.1.stackTraces = false ∧ (∀ q ∈ nc_list, va_Nc q.1 q.2 s)
def XH (C : CX) (F : MM) (G : GG) (H : Heap) : Prop := va_P C.2.2.2.2 vwCl (wld C.2.2.2.1 C.2.2.1 F G) H ∧ va_D (fun q => C.2.1 ≤ q) (wld C.2.2.2.1 C.2.2.1 F G)
theorem XK.moved {C : CX} {s U : State} {H : Heap} {locs : List Loc} (h : XK C s) (hS : va_S (fun q => C.2.1 ≤ q) s.heap H locs) (hU : U.heap = H) (hW : s.WarmedH U.vm) : XK C U := by
  obtain ⟨h1, h2, h3, h4, h5, h6, h7, h8, h9⟩ := h
  refine ⟨va_K.moved hW.alike h1, by rw [hU]; exact Nat.le_trans h2 hS.1, by rw [hU]; exact vx_Zq.moved hW.alike (h3.kept hS.2.1), by rw [hU]; exact vx_Zq.moved hW.alike (h4.kept hS.2.1), fun q hq => ?_, fun w hw => ?_, va_Nw.warmF hW h7, h8, fun q hq => va_Nc.moved hW.alike (h9 q hq)⟩
  · obtain ⟨sa, h⟩ := h5 q hq
    exact ⟨sa, vk_R.warm hW h⟩
  · have h := h6 w hw
    simp only [bw_list, List.mem_cons, List.not_mem_nil, or_false] at hw
    rcases hw with rfl | rfl | rfl <;> exact va_Nw.warmC hW h
/-! ===== locals ===== -/
def lvR (ρ : Nat → Nat) (ls : Array Slot) (nL : Nat) (L : List (Option Value)) : Prop := ls.size = nL ∧ lv_wf ls ∧ ∀ (i : Nat) (v : Value), L[i]? = some (some v) → ls[i]? = some (.val (rv_ ρ v))
def lv_prs (ρ : Nat → Nat) (L : List (Option Value)) : List (Nat × Value) := (L.mapIdx (fun i o => o.map (fun v => (i, rv_ ρ v)))).filterMap id
theorem lv_prs_mem {ρ : Nat → Nat} {L : List (Option Value)} {q : Nat × Value} : q ∈ lv_prs ρ L ↔ ∃ v, L[q.1]? = some (some v) ∧ q.2 = rv_ ρ v := by
  unfold lv_prs
  rw [List.mem_filterMap]
  constructor
  · rintro ⟨o, ho, hq⟩
    obtain ⟨i, hi⟩ := List.getElem?_of_mem ho
    rw [List.getElem?_mapIdx] at hi
    cases hL : L[i]? with
    | none => rw [hL] at hi; cases hi
    | some w =>
      rw [hL] at hi
      cases w with
      | none => cases hi; cases hq
      | some v => cases hi; cases hq; exact ⟨v, hL, rfl⟩
  · rintro ⟨v, h1, h2⟩
    refine ⟨some q, ?_, rfl⟩
    apply List.mem_of_getElem? (i := q.1)
    rw [List.getElem?_mapIdx, h1]
    show some (some (q.1, rv_ ρ v)) = some (some q)
    rw [← h2]
theorem lvR.has {ρ : Nat → Nat} {ls : Array Slot} {nL : Nat} {L : List (Option Value)} (h : lvR ρ ls nL L) : lv_has ls nL (lv_prs ρ L) := by
  refine ⟨h.1, h.2.1, fun q hq => ?_⟩
  obtain ⟨v, h1, h2⟩ := lv_prs_mem.mp hq
  rw [h2]
  exact h.2.2 _ _ h1
def lv_clr (L : List (Option Value)) (i : Nat) : List (Option Value) := match i with
  | 0 => L
  | j + 1 => match L[j]? with
    | some (some w) => if w.category = 2 then L.set j none else L
    | _ => L
def lv_st1 (L : List (Option Value)) (i : Nat) (v : Value) : List (Option Value) := (lv_clr L i).set i (some v)
def lv_st2 (L : List (Option Value)) (i : Nat) (v : Value) : List (Option Value) := ((lv_clr L i).set i (some v)).set (i + 1) none
theorem lv_clr_at {L : List (Option Value)} {i j : Nat} {w : Value} (h : (lv_clr L i)[j]? = some (some w)) : L[j]? = some (some w) ∧ ¬ (j + 1 = i ∧ w.category = 2) := by
  unfold lv_clr at h
  cases i with
  | zero => exact ⟨h, fun q => by omega⟩
  | succ k =>
    dsimp only at h
    cases hk : L[k]? with
    | none =>
      rw [hk] at h
      refine ⟨h, fun q => ?_⟩
      have : j = k := by omega
      subst this
      rw [hk] at h; cases h
    | some o =>
      cases o with
      | none =>
        rw [hk] at h
        refine ⟨h, fun q => ?_⟩
        have : j = k := by omega
        subst this
        rw [hk] at h; cases h
      | some u =>
        rw [hk] at h
        dsimp only at h
        by_cases hc : u.category = 2
        · rw [if_pos hc] at h
          by_cases hj : j = k
          · subst hj
            rw [List.getElem?_set_self (List.getElem?_eq_some_iff.mp hk).1] at h
            cases h
          · rw [List.getElem?_set_ne (Ne.symm hj)] at h
            exact ⟨h, fun q => hj (by omega)⟩
        · rw [if_neg hc] at h
          refine ⟨h, fun q => ?_⟩
          have : j = k := by omega
          subst this
          rw [hk] at h
          cases h
          exact hc q.2
theorem lvR.st1 {ρ : Nat → Nat} {ls : Array Slot} {nL i : Nat} {L : List (Option Value)} {v : Value} (h : lv_has ls nL ((i, rv_ ρ v) :: (lv_prs ρ L).filter (fun q => !(q.1 == i) && !(q.1 + 1 == i && q.2.category == 2)))) : lvR ρ ls nL (lv_st1 L i v) := by
  refine ⟨h.1, h.2.1, fun j w hj => ?_⟩
  unfold lv_st1 at hj
  by_cases hji : j = i
  · subst hji
    have hlt : j < ((lv_clr L j).set j (some v)).length := (List.getElem?_eq_some_iff.mp hj).1
    rw [List.length_set] at hlt
    rw [List.getElem?_set_self hlt] at hj
    cases hj
    exact h.2.2 _ List.mem_cons_self
  · rw [List.getElem?_set_ne (Ne.symm hji)] at hj
    obtain ⟨h1, h2⟩ := lv_clr_at hj
    refine h.2.2 (j, rv_ ρ w) (List.mem_cons_of_mem _ (List.mem_filter.mpr ⟨lv_prs_mem.mpr ⟨w, h1, rfl⟩, ?_⟩))
    simp only [rv_cat, Bool.and_eq_true, Bool.not_eq_true', beq_eq_false_iff_ne, Bool.and_eq_false_iff, ne_eq]
    refine ⟨hji, ?_⟩
    by_cases hq : j + 1 = i
    · exact Or.inr (fun z => h2 ⟨hq, z⟩)
    · exact Or.inl hq
theorem lvR.st2 {ρ : Nat → Nat} {ls : Array Slot} {nL i : Nat} {L : List (Option Value)} {v : Value} (h : lv_has ls nL ((i, rv_ ρ v) :: (lv_prs ρ L).filter (fun q => !(q.1 == i) && (!(q.1 == i + 1) && !(q.1 + 1 == i && q.2.category == 2))))) : lvR ρ ls nL (lv_st2 L i v) := by
  refine ⟨h.1, h.2.1, fun j w hj => ?_⟩
  unfold lv_st2 at hj
  have hj1 : j ≠ i + 1 := by
    intro e
    subst e
    have hlt := (List.getElem?_eq_some_iff.mp hj).1
    rw [List.length_set] at hlt
    rw [List.getElem?_set_self hlt] at hj
    cases hj
  rw [List.getElem?_set_ne (Ne.symm hj1)] at hj
  by_cases hji : j = i
  · subst hji
    have hlt : j < ((lv_clr L j).set j (some v)).length := (List.getElem?_eq_some_iff.mp hj).1
    rw [List.length_set] at hlt
    rw [List.getElem?_set_self hlt] at hj
    cases hj
    exact h.2.2 _ List.mem_cons_self
  · rw [List.getElem?_set_ne (Ne.symm hji)] at hj
    obtain ⟨h1, h2⟩ := lv_clr_at hj
    refine h.2.2 (j, rv_ ρ w) (List.mem_cons_of_mem _ (List.mem_filter.mpr ⟨lv_prs_mem.mpr ⟨w, h1, rfl⟩, ?_⟩))
    simp only [rv_cat, Bool.and_eq_true, Bool.not_eq_true', beq_eq_false_iff_ne, Bool.and_eq_false_iff, ne_eq]
    refine ⟨hji, hj1, ?_⟩
    by_cases hq : j + 1 = i
    · exact Or.inr (fun z => h2 ⟨hq, z⟩)
    · exact Or.inl hq
def lv_ent : List Value → List (Option Value)
  | [] => []
  | v :: vs => if v.category = 2 then some v :: none :: lv_ent vs else some v :: lv_ent vs
theorem lv_ent_at (ρ : Nat → Nat) : ∀ (vs : List Value) (b j : Nat) (w : Value), (lv_ent vs)[j]? = some (some w) → (b + j, rv_ ρ w) ∈ lv_args b (vs.map (rv_ ρ))
  | [], b, j, w, h => by simp [lv_ent] at h
  | v :: vs, b, j, w, h => by
    have ih := lv_ent_at ρ vs
    unfold lv_ent at h
    rw [List.map_cons, lv_args, rv_cat]
    by_cases hc : v.category = 2
    · rw [if_pos hc] at h ⊢
      match j, h with
      | 0, h => cases h; exact List.mem_cons_self
      | 1, h => cases h
      | j + 2, h =>
        have h' : (lv_ent vs)[j]? = some (some w) := h
        have := ih (b + 2) j w h'
        rw [show b + (j + 2) = b + 2 + j by omega]
        exact List.mem_cons_of_mem _ this
    · rw [if_neg hc] at h ⊢
      match j, h with
      | 0, h => cases h; exact List.mem_cons_self
      | j + 1, h =>
        have h' : (lv_ent vs)[j]? = some (some w) := h
        have := ih (b + 1) j w h'
        rw [show b + (j + 1) = b + 1 + j by omega]
        exact List.mem_cons_of_mem _ this
theorem lvR_entry {ρ : Nat → Nat} {ls : Array Slot} {nL : Nat} {vs : List Value} {L : List (Option Value)} (h : lv_has ls nL (lv_args 0 (vs.map (rv_ ρ)))) (hL : lv_ent vs ++ List.replicate (nL - (lv_ent vs).length) none = L) : lvR ρ ls nL L := by
  subst hL
  refine ⟨h.1, h.2.1, fun j w hj => ?_⟩
  by_cases hl : j < (lv_ent vs).length
  · rw [List.getElem?_append_left hl] at hj
    have := lv_ent_at ρ vs 0 j w hj
    rw [Nat.zero_add] at this
    exact h.2.2 _ this
  · rw [List.getElem?_append_right (by omega)] at hj
    have := List.mem_of_getElem? hj
    rw [List.mem_replicate] at this
    cases this.2
theorem lvR.sub {ρ : Nat → Nat} {ls : Array Slot} {nL : Nat} {L L' : List (Option Value)} (h : lvR ρ ls nL L) (hs : ∀ (i : Nat) (v : Value), L'[i]? = some (some v) → L[i]? = some (some v)) : lvR ρ ls nL L' := ⟨h.1, h.2.1, fun i v hi => h.2.2 i v (hs i v hi)⟩
end
section
/-! ===== the abstract walk ===== -/
def MOk (C : CX) (own : String) (cc : ByteArray) (nL : Nat) (ret : Option FieldType) (R : Room) : MX → Prop
  | (p, e, R', s, m, args, below, meth, c) => R' = R ∧ p.tables.exec = Jvm.exec ∧ c.code = cc ∧ c.maxLocals = nL ∧ s.vm.findClass own = some m.cls ∧ (∀ w, GW w → w.before args s = true) ∧ meth.sig.returnType = ret ∧ meth.locks = false ∧ XK C s
def MNoT : MX → Prop
  | (p, e, R', s, m, args, below, meth, c) => ∀ x ∈ c.exceptionTable.toList, False
def AW (C : CX) (nL : Nat) (Z : State → Prop) : MX → Nat → Nat → Nat → List (Option Value) → List Value → MM → GG → Prop
  | (p, e, R, s, m, args, below, meth, c), cells, slots, pc, L, st, F, G => ∀ (H : Heap) (locs : List Loc) (ls : Array Slot), XH C F G H → va_S (fun q => C.2.1 ≤ q) s.heap H locs → lvR C.2.2.1 ls nL L →
    W p C.1 e R s m args below meth c H locs cells slots Z (F0 m pc ls (st.map (rv_ C.2.2.1)))
/-- something thrown over the frame -/
def AX (C : CX) (nL : Nat) (Z : State → Prop) (E : String) : MX → Nat → Nat → Nat → List (Option Value) → MM → GG → Prop
  | (p, e, R, s, m, args, below, meth, c), cells, slots, pc, L, F, G => ∀ (H : Heap) (locs : List Loc) (ls : Array Slot) (rest : List Value) (ce : Cell) (q : Addr), XH C F G H → va_S (fun q => C.2.1 ≤ q) s.heap H locs → lvR C.2.2.1 ls nL L → H[q]? = some ce → ce.vm = .none → s.vm.findClass E = some ce.cls →
    vx_W p C.1 e R s m args below meth c H locs cells slots Z (F0 m pc ls rest) q
abbrev OUT : Type := Option Value ⊕ String
def QcO (C : CX) (Q : OUT → MM → GG → Prop) : Array Value → State → Outcome → State → Prop := fun _ st o t => ∃ (r : Option Value) (F : MM) (G : GG), o = .returned (r.map (rv_ C.2.2.1)) ∧ Q (.inl r) F G ∧ XH C F G t.heap ∧ va_F (fun q => C.2.1 ≤ q) st t
def XCO (C : CX) (Q : OUT → MM → GG → Prop) : String → State → State → Prop := fun E st t => ∃ (F : MM) (G : GG), Q (.inr E) F G ∧ XH C F G t.heap ∧ va_F (fun q => C.2.1 ≤ q) st t
def wsO (y : MethodName) (cc : ByteArray) (nL : Nat) (ret : Option FieldType) : List Cond := .code y cc nL ret :: lw_tbl.filter goodWord
def AM (C : CX) (y : MethodName) (cc : ByteArray) (nL : Nat) (ret : Option FieldType) (rm : Room) (av : List Value) (F : MM) (G : GG) (Q : OUT → MM → GG → Prop) : Prop :=
  vx_Met C.1 y (wsO y cc nL ret) rm (va_Pc (av.map (rv_ C.2.2.1)) (fun U => XK C U ∧ XH C F G U.heap)) (QcO C Q) (XCO C Q) rm.cells rm.slots (fun q => C.2.1 ≤ q)
def ZM (C : CX) (rm : Room) (Q : OUT → MM → GG → Prop) : MX → State → Prop
  | (p, e, R, s, m, args, below, meth, c) => vx_MQ below (QcO C Q) (XCO C Q) args s rm.cells rm.slots (fun q => C.2.1 ≤ q)
theorem gw_filter {w : Cond} (h : GW w) : w ∈ lw_tbl.filter goodWord := List.mem_filter.mpr h
theorem am_of {C : CX} {y : MethodName} {cc : ByteArray} {nL : Nat} {ret : Option FieldType} {rm : Room} {av : List Value} {F : MM} {G : GG} {Q : OUT → MM → GG → Prop} {L : List (Option Value)}
    (hy : plainName y.cls = true) (hsz : (lg_sl av).length ≤ nL) (hL : lv_ent av ++ List.replicate (nL - (lv_ent av).length) none = L)
    (body : ∀ M : MX, MOk C y.cls cc nL ret rm M → MNoT M → AW C nL (ZM C rm Q M) M 0 0 0 L [] F G) : AM C y cc nL ret rm av F G Q := by
  refine vx_ofW (cc := cc) (maxL := nL) (ret := ret) hy rfl ?_
  intro p e s m args below meth c s₁ B hml ht hv
  obtain ⟨rfl, hK, hH⟩ := hv
  have hts := atoms_spec (ws := wsO y cc nL ret) B.pre
  have hown : s.vm.findClass y.cls = some m.cls := findClass_of_methodNamed B.named
  have hsz2 : (lg_sl (av.map (rv_ C.2.2.1))).length ≤ nL := by
    have : ∀ vs : List Value, (lg_sl (vs.map (rv_ C.2.2.1))).length = (lg_sl vs).length := by
      intro vs
      induction vs with
      | nil => rfl
      | cons v vs ih =>
        unfold lg_sl at ih ⊢
        rw [List.map_cons, List.flatMap_cons, List.flatMap_cons, List.length_append, List.length_append, ih, rv_cat]
        by_cases hc : v.category = 2
        · rw [if_pos hc, if_pos hc]; rfl
        · rw [if_neg hc, if_neg hc]; rfl
    rw [this]; exact hsz
  have hl := lv_entry (av.map (rv_ C.2.2.1)) (n := nL) hsz2
  rw [lg_entry_eq]
  generalize (lg_sl (av.map (rv_ C.2.2.1)) ++ List.replicate (nL - (lg_sl (av.map (rv_ C.2.2.1))).length) Slot.unset).toArray = ls at hl ⊢
  exact body (p, e, (headSpec (wsO y cc nL ret) rm).room, s, m, (av.map (rv_ C.2.2.1)).toArray, below, meth, c) ⟨rfl, B.exec, B.bytes, hml, hown, fun w hw => hts w (List.mem_cons_of_mem _ (gw_filter hw)), B.returns, B.notSynchronized, hK⟩ ht
    s.heap [] ls hH va_S.rf (lvR_entry hl hL)
section AWL
variable {C : CX} {own : String} {cc : ByteArray} {nL : Nat} {ret : Option FieldType} {R : Room} {M : MX} {Z : State → Prop} {cells slots pc : Nat} {L : List (Option Value)} {st : List Value} {F : MM} {G : GG}
theorem aw_iconst {i : Int} {v : Int32} (hM : MOk C own cc nL ret R M) (hd : decode cc pc = .ok (.iconst i, 1)) (hv : Int32.ofInt i = v) (h : AW C nL Z M cells slots (pc + 1) L (.int v :: st) F G) : AW C nL Z M cells slots pc L st F G := by
  obtain ⟨p, e, R', s, m, args, below, meth, c⟩ := M
  obtain ⟨rfl, hx, hb, -⟩ := hM
  intro H locs ls hH hS hl
  exact lv_iconst hx hb hd hv (h H locs ls hH hS hl)
theorem aw_bipush {i : Int} {v : Int32} (hM : MOk C own cc nL ret R M) (hd : decode cc pc = .ok (.bipush i, 2)) (hv : (Int8.ofInt i).toInt32 = v) (h : AW C nL Z M cells slots (pc + 2) L (.int v :: st) F G) : AW C nL Z M cells slots pc L st F G := by
  obtain ⟨p, e, R', s, m, args, below, meth, c⟩ := M
  obtain ⟨rfl, hx, hb, -⟩ := hM
  intro H locs ls hH hS hl
  exact lv_bipush hx hb hd hv (h H locs ls hH hS hl)
theorem aw_sipush {i : Int} {v : Int32} (hM : MOk C own cc nL ret R M) (hd : decode cc pc = .ok (.sipush i, 3)) (hv : (Int16.ofInt i).toInt32 = v) (h : AW C nL Z M cells slots (pc + 3) L (.int v :: st) F G) : AW C nL Z M cells slots pc L st F G := by
  obtain ⟨p, e, R', s, m, args, below, meth, c⟩ := M
  obtain ⟨rfl, hx, hb, -⟩ := hM
  intro H locs ls hH hS hl
  exact lv_sipush hx hb hd hv (h H locs ls hH hS hl)
theorem aw_lconst {i : Fin 2} {v : Int64} (hM : MOk C own cc nL ret R M) (hd : decode cc pc = .ok (.lconst i, 1)) (hv : Int64.ofNat (i : Nat) = v) (h : AW C nL Z M cells slots (pc + 1) L (.long v :: st) F G) : AW C nL Z M cells slots pc L st F G := by
  obtain ⟨p, e, R', s, m, args, below, meth, c⟩ := M
  obtain ⟨rfl, hx, hb, -⟩ := hM
  intro H locs ls hH hS hl
  exact lv_lconst hx hb hd hv (h H locs ls hH hS hl)
theorem aw_iload_n {k : Fin 4} {i : Nat} {x : Int32} (hM : MOk C own cc nL ret R M) (hd : decode cc pc = .ok (.iload_n k, 1)) (hi : (k : Nat) = i) (hv : L[i]? = some (some (.int x))) (h : AW C nL Z M cells slots (pc + 1) L (.int x :: st) F G) : AW C nL Z M cells slots pc L st F G := by
  obtain ⟨p, e, R', s, m, args, below, meth, c⟩ := M
  obtain ⟨rfl, hx, hb, -⟩ := hM
  intro H locs ls hH hS hl
  exact lv_iload_n hx hb hd hi (hl.2.2 _ _ hv) (h H locs ls hH hS hl)
theorem aw_iload {i : Nat} {x : Int32} (hM : MOk C own cc nL ret R M) (hd : decode cc pc = .ok (.iload i, 2)) (hv : L[i]? = some (some (.int x))) (h : AW C nL Z M cells slots (pc + 2) L (.int x :: st) F G) : AW C nL Z M cells slots pc L st F G := by
  obtain ⟨p, e, R', s, m, args, below, meth, c⟩ := M
  obtain ⟨rfl, hx, hb, -⟩ := hM
  intro H locs ls hH hS hl
  exact lv_iload hx hb hd (hl.2.2 _ _ hv) (h H locs ls hH hS hl)
theorem aw_lload_n {k : Fin 4} {i : Nat} {x : Int64} (hM : MOk C own cc nL ret R M) (hd : decode cc pc = .ok (.lload_n k, 1)) (hi : (k : Nat) = i) (hv : L[i]? = some (some (.long x))) (h : AW C nL Z M cells slots (pc + 1) L (.long x :: st) F G) : AW C nL Z M cells slots pc L st F G := by
  obtain ⟨p, e, R', s, m, args, below, meth, c⟩ := M
  obtain ⟨rfl, hx, hb, -⟩ := hM
  intro H locs ls hH hS hl
  exact lv_lload_n hx hb hd hi (hl.2.2 _ _ hv) (h H locs ls hH hS hl)
theorem aw_lload {i : Nat} {x : Int64} (hM : MOk C own cc nL ret R M) (hd : decode cc pc = .ok (.lload i, 2)) (hv : L[i]? = some (some (.long x))) (h : AW C nL Z M cells slots (pc + 2) L (.long x :: st) F G) : AW C nL Z M cells slots pc L st F G := by
  obtain ⟨p, e, R', s, m, args, below, meth, c⟩ := M
  obtain ⟨rfl, hx, hb, -⟩ := hM
  intro H locs ls hH hS hl
  exact lv_lload hx hb hd (hl.2.2 _ _ hv) (h H locs ls hH hS hl)
theorem aw_aload_n {k : Fin 4} {i : Nat} {x : Nat} (hM : MOk C own cc nL ret R M) (hd : decode cc pc = .ok (.aload_n k, 1)) (hi : (k : Nat) = i) (hv : L[i]? = some (some (.ref x))) (h : AW C nL Z M cells slots (pc + 1) L (.ref x :: st) F G) : AW C nL Z M cells slots pc L st F G := by
  obtain ⟨p, e, R', s, m, args, below, meth, c⟩ := M
  obtain ⟨rfl, hx, hb, -⟩ := hM
  intro H locs ls hH hS hl
  exact lv_aload_n hx hb hd hi (hl.2.2 _ _ hv) (h H locs ls hH hS hl)
theorem aw_aload {i : Nat} {x : Nat} (hM : MOk C own cc nL ret R M) (hd : decode cc pc = .ok (.aload i, 2)) (hv : L[i]? = some (some (.ref x))) (h : AW C nL Z M cells slots (pc + 2) L (.ref x :: st) F G) : AW C nL Z M cells slots pc L st F G := by
  obtain ⟨p, e, R', s, m, args, below, meth, c⟩ := M
  obtain ⟨rfl, hx, hb, -⟩ := hM
  intro H locs ls hH hS hl
  exact lv_aload hx hb hd (hl.2.2 _ _ hv) (h H locs ls hH hS hl)
theorem aw_istore_n {k : Fin 4} {i : Nat} {x : Int32} {L' : List (Option Value)} (hM : MOk C own cc nL ret R M) (hd : decode cc pc = .ok (.istore_n k, 1)) (hi : (k : Nat) = i) (hn : i < nL) (hL : lv_st1 L i (.int x) = L') (h : AW C nL Z M cells slots (pc + 1) L' st F G) : AW C nL Z M cells slots pc L (.int x :: st) F G := by
  obtain ⟨p, e, R', s, m, args, below, meth, c⟩ := M
  obtain ⟨rfl, hx, hb, -⟩ := hM
  subst hL
  intro H locs ls hH hS hl
  exact lv_istore_n hx hb hd hi hl.has hn rfl (fun ls' hl' => h H locs ls' hH hS (lvR.st1 (v := .int x) hl'))
theorem aw_istore {i : Nat} {x : Int32} {L' : List (Option Value)} (hM : MOk C own cc nL ret R M) (hd : decode cc pc = .ok (.istore i, 2)) (hn : i < nL) (hL : lv_st1 L i (.int x) = L') (h : AW C nL Z M cells slots (pc + 2) L' st F G) : AW C nL Z M cells slots pc L (.int x :: st) F G := by
  obtain ⟨p, e, R', s, m, args, below, meth, c⟩ := M
  obtain ⟨rfl, hx, hb, -⟩ := hM
  subst hL
  intro H locs ls hH hS hl
  exact lv_istore hx hb hd hl.has hn rfl (fun ls' hl' => h H locs ls' hH hS (lvR.st1 (v := .int x) hl'))
theorem aw_lstore_n {k : Fin 4} {i : Nat} {x : Int64} {L' : List (Option Value)} (hM : MOk C own cc nL ret R M) (hd : decode cc pc = .ok (.lstore_n k, 1)) (hi : (k : Nat) = i) (hn : i + 1 < nL) (hL : lv_st2 L i (.long x) = L') (h : AW C nL Z M cells slots (pc + 1) L' st F G) : AW C nL Z M cells slots pc L (.long x :: st) F G := by
  obtain ⟨p, e, R', s, m, args, below, meth, c⟩ := M
  obtain ⟨rfl, hx, hb, -⟩ := hM
  subst hL
  intro H locs ls hH hS hl
  exact lv_lstore_n hx hb hd hi hl.has hn rfl (fun ls' hl' => h H locs ls' hH hS (lvR.st2 (v := .long x) hl'))
theorem aw_lstore {i : Nat} {x : Int64} {L' : List (Option Value)} (hM : MOk C own cc nL ret R M) (hd : decode cc pc = .ok (.lstore i, 2)) (hn : i + 1 < nL) (hL : lv_st2 L i (.long x) = L') (h : AW C nL Z M cells slots (pc + 2) L' st F G) : AW C nL Z M cells slots pc L (.long x :: st) F G := by
  obtain ⟨p, e, R', s, m, args, below, meth, c⟩ := M
  obtain ⟨rfl, hx, hb, -⟩ := hM
  subst hL
  intro H locs ls hH hS hl
  exact lv_lstore hx hb hd hl.has hn rfl (fun ls' hl' => h H locs ls' hH hS (lvR.st2 (v := .long x) hl'))
theorem aw_astore_n {k : Fin 4} {i : Nat} {x : Nat} {L' : List (Option Value)} (hM : MOk C own cc nL ret R M) (hd : decode cc pc = .ok (.astore_n k, 1)) (hi : (k : Nat) = i) (hn : i < nL) (hL : lv_st1 L i (.ref x) = L') (h : AW C nL Z M cells slots (pc + 1) L' st F G) : AW C nL Z M cells slots pc L (.ref x :: st) F G := by
  obtain ⟨p, e, R', s, m, args, below, meth, c⟩ := M
  obtain ⟨rfl, hx, hb, -⟩ := hM
  subst hL
  intro H locs ls hH hS hl
  exact lv_astore_n hx hb hd hi hl.has hn rfl (fun ls' hl' => h H locs ls' hH hS (lvR.st1 (v := .ref x) hl'))
theorem aw_astore {i : Nat} {x : Nat} {L' : List (Option Value)} (hM : MOk C own cc nL ret R M) (hd : decode cc pc = .ok (.astore i, 2)) (hn : i < nL) (hL : lv_st1 L i (.ref x) = L') (h : AW C nL Z M cells slots (pc + 2) L' st F G) : AW C nL Z M cells slots pc L (.ref x :: st) F G := by
  obtain ⟨p, e, R', s, m, args, below, meth, c⟩ := M
  obtain ⟨rfl, hx, hb, -⟩ := hM
  subst hL
  intro H locs ls hH hS hl
  exact lv_astore hx hb hd hl.has hn rfl (fun ls' hl' => h H locs ls' hH hS (lvR.st1 (v := .ref x) hl'))
theorem aw_iinc {i : Nat} {n : Int} {x v : Int32} {L' : List (Option Value)} (hM : MOk C own cc nL ret R M) (hd : decode cc pc = .ok (.iinc i n, 3)) (hv : L[i]? = some (some (.int x))) (hxv : x + Int32.ofInt n = v) (hn : i < nL) (hL : lv_st1 L i (.int v) = L') (h : AW C nL Z M cells slots (pc + 3) L' st F G) : AW C nL Z M cells slots pc L st F G := by
  obtain ⟨p, e, R', s, m, args, below, meth, c⟩ := M
  obtain ⟨rfl, hx, hb, -⟩ := hM
  subst hL
  intro H locs ls hH hS hl
  obtain ⟨k, hk⟩ := List.getElem?_of_mem (lv_prs_mem (ρ := C.2.2.1) (L := L) (q := (i, .int x)) |>.mpr ⟨.int x, hv, rfl⟩)
  exact lv_iinc hx hb hd hl.has hk hxv hn rfl (fun ls' hl' => h H locs ls' hH hS (lvR.st1 (v := .int v) hl'))
theorem aw_iadd {x y : Int32} (hM : MOk C own cc nL ret R M) (hd : decode cc pc = .ok (.iadd, 1)) (h : AW C nL Z M cells slots (pc + 1) L (.int (x + y) :: st) F G) : AW C nL Z M cells slots pc L (.int y :: .int x :: st) F G := by
  obtain ⟨p, e, R', s, m, args, below, meth, c⟩ := M
  obtain ⟨rfl, hx, hb, -⟩ := hM
  intro H locs ls hH hS hl
  exact lv_iadd hx hb hd (h H locs ls hH hS hl)
theorem aw_isub {x y : Int32} (hM : MOk C own cc nL ret R M) (hd : decode cc pc = .ok (.isub, 1)) (h : AW C nL Z M cells slots (pc + 1) L (.int (x - y) :: st) F G) : AW C nL Z M cells slots pc L (.int y :: .int x :: st) F G := by
  obtain ⟨p, e, R', s, m, args, below, meth, c⟩ := M
  obtain ⟨rfl, hx, hb, -⟩ := hM
  intro H locs ls hH hS hl
  exact lv_isub hx hb hd (h H locs ls hH hS hl)
theorem aw_imul {x y : Int32} (hM : MOk C own cc nL ret R M) (hd : decode cc pc = .ok (.imul, 1)) (h : AW C nL Z M cells slots (pc + 1) L (.int (x * y) :: st) F G) : AW C nL Z M cells slots pc L (.int y :: .int x :: st) F G := by
  obtain ⟨p, e, R', s, m, args, below, meth, c⟩ := M
  obtain ⟨rfl, hx, hb, -⟩ := hM
  intro H locs ls hH hS hl
  exact lv_imul hx hb hd (h H locs ls hH hS hl)
theorem aw_iand {x y : Int32} (hM : MOk C own cc nL ret R M) (hd : decode cc pc = .ok (.iand, 1)) (h : AW C nL Z M cells slots (pc + 1) L (.int (x &&& y) :: st) F G) : AW C nL Z M cells slots pc L (.int y :: .int x :: st) F G := by
  obtain ⟨p, e, R', s, m, args, below, meth, c⟩ := M
  obtain ⟨rfl, hx, hb, -⟩ := hM
  intro H locs ls hH hS hl
  exact lv_iand hx hb hd (h H locs ls hH hS hl)
theorem aw_ior {x y : Int32} (hM : MOk C own cc nL ret R M) (hd : decode cc pc = .ok (.ior, 1)) (h : AW C nL Z M cells slots (pc + 1) L (.int (x ||| y) :: st) F G) : AW C nL Z M cells slots pc L (.int y :: .int x :: st) F G := by
  obtain ⟨p, e, R', s, m, args, below, meth, c⟩ := M
  obtain ⟨rfl, hx, hb, -⟩ := hM
  intro H locs ls hH hS hl
  exact lv_ior hx hb hd (h H locs ls hH hS hl)
theorem aw_ixor {x y : Int32} (hM : MOk C own cc nL ret R M) (hd : decode cc pc = .ok (.ixor, 1)) (h : AW C nL Z M cells slots (pc + 1) L (.int (x ^^^ y) :: st) F G) : AW C nL Z M cells slots pc L (.int y :: .int x :: st) F G := by
  obtain ⟨p, e, R', s, m, args, below, meth, c⟩ := M
  obtain ⟨rfl, hx, hb, -⟩ := hM
  intro H locs ls hH hS hl
  exact lv_ixor hx hb hd (h H locs ls hH hS hl)
theorem aw_ishl {x y : Int32} (hM : MOk C own cc nL ret R M) (hd : decode cc pc = .ok (.ishl, 1)) (h : AW C nL Z M cells slots (pc + 1) L (.int (x <<< (y &&& 31)) :: st) F G) : AW C nL Z M cells slots pc L (.int y :: .int x :: st) F G := by
  obtain ⟨p, e, R', s, m, args, below, meth, c⟩ := M
  obtain ⟨rfl, hx, hb, -⟩ := hM
  intro H locs ls hH hS hl
  exact lv_ishl hx hb hd (h H locs ls hH hS hl)
theorem aw_ishr {x y : Int32} (hM : MOk C own cc nL ret R M) (hd : decode cc pc = .ok (.ishr, 1)) (h : AW C nL Z M cells slots (pc + 1) L (.int (x >>> (y &&& 31)) :: st) F G) : AW C nL Z M cells slots pc L (.int y :: .int x :: st) F G := by
  obtain ⟨p, e, R', s, m, args, below, meth, c⟩ := M
  obtain ⟨rfl, hx, hb, -⟩ := hM
  intro H locs ls hH hS hl
  exact lv_ishr hx hb hd (h H locs ls hH hS hl)
theorem aw_idiv {x y : Int32} (hM : MOk C own cc nL ret R M) (hd : decode cc pc = .ok (.idiv, 1)) (hne : ¬ y = 0) (h : AW C nL Z M cells slots (pc + 1) L (.int (x / y) :: st) F G) : AW C nL Z M cells slots pc L (.int y :: .int x :: st) F G := by
  obtain ⟨p, e, R', s, m, args, below, meth, c⟩ := M
  obtain ⟨rfl, hx, hb, -⟩ := hM
  intro H locs ls hH hS hl
  exact lv_idiv hx hb hd hne (h H locs ls hH hS hl)
theorem aw_irem {x y : Int32} (hM : MOk C own cc nL ret R M) (hd : decode cc pc = .ok (.irem, 1)) (hne : ¬ y = 0) (h : AW C nL Z M cells slots (pc + 1) L (.int (x - x / y * y) :: st) F G) : AW C nL Z M cells slots pc L (.int y :: .int x :: st) F G := by
  obtain ⟨p, e, R', s, m, args, below, meth, c⟩ := M
  obtain ⟨rfl, hx, hb, -⟩ := hM
  intro H locs ls hH hS hl
  exact lv_irem hx hb hd hne (h H locs ls hH hS hl)
theorem aw_ladd {x y : Int64} (hM : MOk C own cc nL ret R M) (hd : decode cc pc = .ok (.ladd, 1)) (h : AW C nL Z M cells slots (pc + 1) L (.long (x + y) :: st) F G) : AW C nL Z M cells slots pc L (.long y :: .long x :: st) F G := by
  obtain ⟨p, e, R', s, m, args, below, meth, c⟩ := M
  obtain ⟨rfl, hx, hb, -⟩ := hM
  intro H locs ls hH hS hl
  exact lv_ladd hx hb hd (h H locs ls hH hS hl)
theorem aw_lsub {x y : Int64} (hM : MOk C own cc nL ret R M) (hd : decode cc pc = .ok (.lsub, 1)) (h : AW C nL Z M cells slots (pc + 1) L (.long (x - y) :: st) F G) : AW C nL Z M cells slots pc L (.long y :: .long x :: st) F G := by
  obtain ⟨p, e, R', s, m, args, below, meth, c⟩ := M
  obtain ⟨rfl, hx, hb, -⟩ := hM
  intro H locs ls hH hS hl
  exact lv_lsub hx hb hd (h H locs ls hH hS hl)
theorem aw_lmul {x y : Int64} (hM : MOk C own cc nL ret R M) (hd : decode cc pc = .ok (.lmul, 1)) (h : AW C nL Z M cells slots (pc + 1) L (.long (x * y) :: st) F G) : AW C nL Z M cells slots pc L (.long y :: .long x :: st) F G := by
  obtain ⟨p, e, R', s, m, args, below, meth, c⟩ := M
  obtain ⟨rfl, hx, hb, -⟩ := hM
  intro H locs ls hH hS hl
  exact lv_lmul hx hb hd (h H locs ls hH hS hl)
theorem aw_land {x y : Int64} (hM : MOk C own cc nL ret R M) (hd : decode cc pc = .ok (.land, 1)) (h : AW C nL Z M cells slots (pc + 1) L (.long (x &&& y) :: st) F G) : AW C nL Z M cells slots pc L (.long y :: .long x :: st) F G := by
  obtain ⟨p, e, R', s, m, args, below, meth, c⟩ := M
  obtain ⟨rfl, hx, hb, -⟩ := hM
  intro H locs ls hH hS hl
  exact lv_land hx hb hd (h H locs ls hH hS hl)
theorem aw_lor {x y : Int64} (hM : MOk C own cc nL ret R M) (hd : decode cc pc = .ok (.lor, 1)) (h : AW C nL Z M cells slots (pc + 1) L (.long (x ||| y) :: st) F G) : AW C nL Z M cells slots pc L (.long y :: .long x :: st) F G := by
  obtain ⟨p, e, R', s, m, args, below, meth, c⟩ := M
  obtain ⟨rfl, hx, hb, -⟩ := hM
  intro H locs ls hH hS hl
  exact lv_lor hx hb hd (h H locs ls hH hS hl)
theorem aw_ldiv {x y : Int64} (hM : MOk C own cc nL ret R M) (hd : decode cc pc = .ok (.ldiv, 1)) (hne : ¬ y = 0) (h : AW C nL Z M cells slots (pc + 1) L (.long (x / y) :: st) F G) : AW C nL Z M cells slots pc L (.long y :: .long x :: st) F G := by
  obtain ⟨p, e, R', s, m, args, below, meth, c⟩ := M
  obtain ⟨rfl, hx, hb, -⟩ := hM
  intro H locs ls hH hS hl
  exact lv_ldiv hx hb hd hne (h H locs ls hH hS hl)
theorem aw_lrem {x y : Int64} (hM : MOk C own cc nL ret R M) (hd : decode cc pc = .ok (.lrem, 1)) (hne : ¬ y = 0) (h : AW C nL Z M cells slots (pc + 1) L (.long (x - x / y * y) :: st) F G) : AW C nL Z M cells slots pc L (.long y :: .long x :: st) F G := by
  obtain ⟨p, e, R', s, m, args, below, meth, c⟩ := M
  obtain ⟨rfl, hx, hb, -⟩ := hM
  intro H locs ls hH hS hl
  exact lv_lrem hx hb hd hne (h H locs ls hH hS hl)
theorem aw_lcmp {x y : Int64} (hM : MOk C own cc nL ret R M) (hd : decode cc pc = .ok (.lcmp, 1)) (h : AW C nL Z M cells slots (pc + 1) L (.int (lg_cmp x y) :: st) F G) : AW C nL Z M cells slots pc L (.long y :: .long x :: st) F G := by
  obtain ⟨p, e, R', s, m, args, below, meth, c⟩ := M
  obtain ⟨rfl, hx, hb, -⟩ := hM
  intro H locs ls hH hS hl
  exact W.lcmp hx hb hd (h H locs ls hH hS hl)
theorem aw_i2l {x : Int32} (hM : MOk C own cc nL ret R M) (hd : decode cc pc = .ok (.i2l, 1)) (h : AW C nL Z M cells slots (pc + 1) L (.long x.toInt64 :: st) F G) : AW C nL Z M cells slots pc L (.int x :: st) F G := by
  obtain ⟨p, e, R', s, m, args, below, meth, c⟩ := M
  obtain ⟨rfl, hx, hb, -⟩ := hM
  intro H locs ls hH hS hl
  exact lv_i2l hx hb hd rfl (h H locs ls hH hS hl)
theorem aw_l2i {x : Int64} (hM : MOk C own cc nL ret R M) (hd : decode cc pc = .ok (.l2i, 1)) (h : AW C nL Z M cells slots (pc + 1) L (.int x.toInt32 :: st) F G) : AW C nL Z M cells slots pc L (.long x :: st) F G := by
  obtain ⟨p, e, R', s, m, args, below, meth, c⟩ := M
  obtain ⟨rfl, hx, hb, -⟩ := hM
  intro H locs ls hH hS hl
  exact lv_l2i hx hb hd rfl (h H locs ls hH hS hl)
theorem aw_i2c {x : Int32} (hM : MOk C own cc nL ret R M) (hd : decode cc pc = .ok (.i2c, 1)) (h : AW C nL Z M cells slots (pc + 1) L (.int (x.toUInt32 % 65536).toInt32 :: st) F G) : AW C nL Z M cells slots pc L (.int x :: st) F G := by
  obtain ⟨p, e, R', s, m, args, below, meth, c⟩ := M
  obtain ⟨rfl, hx, hb, -⟩ := hM
  intro H locs ls hH hS hl
  exact lv_i2c hx hb hd rfl (h H locs ls hH hS hl)
theorem aw_lushr {x : Int64} {y : Int32} (hM : MOk C own cc nL ret R M) (hd : decode cc pc = .ok (.lushr, 1)) (h : AW C nL Z M cells slots (pc + 1) L (.long (x.toUInt64 >>> (y.toInt64.toUInt64 &&& Int64.toUInt64 63)).toInt64 :: st) F G) : AW C nL Z M cells slots pc L (.int y :: .long x :: st) F G := by
  obtain ⟨p, e, R', s, m, args, below, meth, c⟩ := M
  obtain ⟨rfl, hx, hb, -⟩ := hM
  intro H locs ls hH hS hl
  exact lv_lushr hx hb hd rfl (h H locs ls hH hS hl)
theorem aw_lshl {x : Int64} {y : Int32} (hM : MOk C own cc nL ret R M) (hd : decode cc pc = .ok (.lshl, 1)) (h : AW C nL Z M cells slots (pc + 1) L (.long (x <<< (y.toInt64 &&& 63)) :: st) F G) : AW C nL Z M cells slots pc L (.int y :: .long x :: st) F G := by
  obtain ⟨p, e, R', s, m, args, below, meth, c⟩ := M
  obtain ⟨rfl, hx, hb, -⟩ := hM
  intro H locs ls hH hS hl
  exact lv_lshl hx hb hd rfl (h H locs ls hH hS hl)
theorem aw_dup {va : Value} (hM : MOk C own cc nL ret R M) (hd : decode cc pc = .ok (.dup, 1)) (hc : va.category = 1) (h : AW C nL Z M cells slots (pc + 1) L (va :: va :: st) F G) : AW C nL Z M cells slots pc L (va :: st) F G := by
  obtain ⟨p, e, R', s, m, args, below, meth, c⟩ := M
  obtain ⟨rfl, hx, hb, -⟩ := hM
  intro H locs ls hH hS hl
  exact lv_dup hx hb hd (by rw [rv_cat]; exact hc) (h H locs ls hH hS hl)
theorem aw_pop {va : Value} (hM : MOk C own cc nL ret R M) (hd : decode cc pc = .ok (.pop, 1)) (hc : va.category = 1) (h : AW C nL Z M cells slots (pc + 1) L (st) F G) : AW C nL Z M cells slots pc L (va :: st) F G := by
  obtain ⟨p, e, R', s, m, args, below, meth, c⟩ := M
  obtain ⟨rfl, hx, hb, -⟩ := hM
  intro H locs ls hH hS hl
  exact lv_pop hx hb hd (by rw [rv_cat]; exact hc) (h H locs ls hH hS hl)
theorem aw_dup2 {va vb : Value} (hM : MOk C own cc nL ret R M) (hd : decode cc pc = .ok (.dup2, 1)) (hc : va.category = 1) (hc2 : vb.category = 1) (h : AW C nL Z M cells slots (pc + 1) L (va :: vb :: va :: vb :: st) F G) : AW C nL Z M cells slots pc L (va :: vb :: st) F G := by
  obtain ⟨p, e, R', s, m, args, below, meth, c⟩ := M
  obtain ⟨rfl, hx, hb, -⟩ := hM
  intro H locs ls hH hS hl
  exact lv_dup2_11 hx hb hd (by rw [rv_cat]; exact hc) (by rw [rv_cat]; exact hc2) (h H locs ls hH hS hl)
theorem aw_dup_x1 {va vb : Value} (hM : MOk C own cc nL ret R M) (hd : decode cc pc = .ok (.dup_x1, 1)) (hc : va.category = 1) (hc2 : vb.category = 1) (h : AW C nL Z M cells slots (pc + 1) L (va :: vb :: va :: st) F G) : AW C nL Z M cells slots pc L (va :: vb :: st) F G := by
  obtain ⟨p, e, R', s, m, args, below, meth, c⟩ := M
  obtain ⟨rfl, hx, hb, -⟩ := hM
  intro H locs ls hH hS hl
  exact lv_dup_x1 hx hb hd (by rw [rv_cat]; exact hc) (by rw [rv_cat]; exact hc2) (h H locs ls hH hS hl)
theorem aw_ldc {index : Nat} {v : Int32} (hM : MOk C own cc nL ret R M) (hw : GW (.constant own index v)) (hd : decode cc pc = .ok (.ldc index, 2)) (h : AW C nL Z M cells slots (pc + 2) L (.int v :: st) F G) : AW C nL Z M cells slots pc L st F G := by
  obtain ⟨p, e, R', s, m, args, below, meth, c⟩ := M
  obtain ⟨rfl, hx, hb, hml, hown, hts, -⟩ := hM
  intro H locs ls hH hS hl
  exact lv_ldc hx hb hown (hts _ hw) hd (h H locs ls hH hS hl)
theorem aw_ldc2 {index : Nat} {v : Int64} (hM : MOk C own cc nL ret R M) (hw : GW (.constantLong own index v)) (hd : decode cc pc = .ok (.ldc2_w index, 3)) (h : AW C nL Z M cells slots (pc + 3) L (.long v :: st) F G) : AW C nL Z M cells slots pc L st F G := by
  obtain ⟨p, e, R', s, m, args, below, meth, c⟩ := M
  obtain ⟨rfl, hx, hb, hml, hown, hts, -⟩ := hM
  intro H locs ls hH hS hl
  exact lv_ldc2 hx hb hown (hts _ hw) hd (h H locs ls hH hS hl)
theorem aw_if_eq {x : Int32} {off : Int} {tgt : Nat} (hM : MOk C own cc nL ret R M) (hd : decode cc pc = .ok (.ifCond .eq off, 3)) (ht : (pc : Int) + off = (tgt : Int)) (kt : x = 0 → AW C nL Z M cells slots tgt L st F G) (kf : ¬ x = 0 → AW C nL Z M cells slots (pc + 3) L st F G) : AW C nL Z M cells slots pc L (.int x :: st) F G := by
  obtain ⟨p, e, R', s, m, args, below, meth, c⟩ := M
  obtain ⟨rfl, hx, hb, -⟩ := hM
  intro H locs ls hH hS hl
  exact lv_if_eq hx hb hd ht (fun q => kt q H locs ls hH hS hl) (fun q => kf q H locs ls hH hS hl)
theorem aw_if_ne {x : Int32} {off : Int} {tgt : Nat} (hM : MOk C own cc nL ret R M) (hd : decode cc pc = .ok (.ifCond .ne off, 3)) (ht : (pc : Int) + off = (tgt : Int)) (kt : ¬ x = 0 → AW C nL Z M cells slots tgt L st F G) (kf : x = 0 → AW C nL Z M cells slots (pc + 3) L st F G) : AW C nL Z M cells slots pc L (.int x :: st) F G := by
  obtain ⟨p, e, R', s, m, args, below, meth, c⟩ := M
  obtain ⟨rfl, hx, hb, -⟩ := hM
  intro H locs ls hH hS hl
  exact lv_if_ne hx hb hd ht (fun q => kt q H locs ls hH hS hl) (fun q => kf q H locs ls hH hS hl)
theorem aw_if_lt {x : Int32} {off : Int} {tgt : Nat} (hM : MOk C own cc nL ret R M) (hd : decode cc pc = .ok (.ifCond .lt off, 3)) (ht : (pc : Int) + off = (tgt : Int)) (kt : x < 0 → AW C nL Z M cells slots tgt L st F G) (kf : ¬ x < 0 → AW C nL Z M cells slots (pc + 3) L st F G) : AW C nL Z M cells slots pc L (.int x :: st) F G := by
  obtain ⟨p, e, R', s, m, args, below, meth, c⟩ := M
  obtain ⟨rfl, hx, hb, -⟩ := hM
  intro H locs ls hH hS hl
  exact lv_if_lt hx hb hd ht (fun q => kt q H locs ls hH hS hl) (fun q => kf q H locs ls hH hS hl)
theorem aw_if_ge {x : Int32} {off : Int} {tgt : Nat} (hM : MOk C own cc nL ret R M) (hd : decode cc pc = .ok (.ifCond .ge off, 3)) (ht : (pc : Int) + off = (tgt : Int)) (kt : 0 ≤ x → AW C nL Z M cells slots tgt L st F G) (kf : ¬ 0 ≤ x → AW C nL Z M cells slots (pc + 3) L st F G) : AW C nL Z M cells slots pc L (.int x :: st) F G := by
  obtain ⟨p, e, R', s, m, args, below, meth, c⟩ := M
  obtain ⟨rfl, hx, hb, -⟩ := hM
  intro H locs ls hH hS hl
  exact lv_if_ge hx hb hd ht (fun q => kt q H locs ls hH hS hl) (fun q => kf q H locs ls hH hS hl)
theorem aw_if_gt {x : Int32} {off : Int} {tgt : Nat} (hM : MOk C own cc nL ret R M) (hd : decode cc pc = .ok (.ifCond .gt off, 3)) (ht : (pc : Int) + off = (tgt : Int)) (kt : 0 < x → AW C nL Z M cells slots tgt L st F G) (kf : ¬ 0 < x → AW C nL Z M cells slots (pc + 3) L st F G) : AW C nL Z M cells slots pc L (.int x :: st) F G := by
  obtain ⟨p, e, R', s, m, args, below, meth, c⟩ := M
  obtain ⟨rfl, hx, hb, -⟩ := hM
  intro H locs ls hH hS hl
  exact lv_if_gt hx hb hd ht (fun q => kt q H locs ls hH hS hl) (fun q => kf q H locs ls hH hS hl)
theorem aw_if_le {x : Int32} {off : Int} {tgt : Nat} (hM : MOk C own cc nL ret R M) (hd : decode cc pc = .ok (.ifCond .le off, 3)) (ht : (pc : Int) + off = (tgt : Int)) (kt : x ≤ 0 → AW C nL Z M cells slots tgt L st F G) (kf : ¬ x ≤ 0 → AW C nL Z M cells slots (pc + 3) L st F G) : AW C nL Z M cells slots pc L (.int x :: st) F G := by
  obtain ⟨p, e, R', s, m, args, below, meth, c⟩ := M
  obtain ⟨rfl, hx, hb, -⟩ := hM
  intro H locs ls hH hS hl
  exact lv_if_le hx hb hd ht (fun q => kt q H locs ls hH hS hl) (fun q => kf q H locs ls hH hS hl)
theorem aw_icmp_eq {x y : Int32} {off : Int} {tgt : Nat} (hM : MOk C own cc nL ret R M) (hd : decode cc pc = .ok (.if_icmp .eq off, 3)) (ht : (pc : Int) + off = (tgt : Int)) (kt : x = y → AW C nL Z M cells slots tgt L st F G) (kf : ¬ x = y → AW C nL Z M cells slots (pc + 3) L st F G) : AW C nL Z M cells slots pc L (.int y :: .int x :: st) F G := by
  obtain ⟨p, e, R', s, m, args, below, meth, c⟩ := M
  obtain ⟨rfl, hx, hb, -⟩ := hM
  intro H locs ls hH hS hl
  exact lv_icmp_eq hx hb hd ht (fun q => kt q H locs ls hH hS hl) (fun q => kf q H locs ls hH hS hl)
theorem aw_icmp_ne {x y : Int32} {off : Int} {tgt : Nat} (hM : MOk C own cc nL ret R M) (hd : decode cc pc = .ok (.if_icmp .ne off, 3)) (ht : (pc : Int) + off = (tgt : Int)) (kt : ¬ x = y → AW C nL Z M cells slots tgt L st F G) (kf : x = y → AW C nL Z M cells slots (pc + 3) L st F G) : AW C nL Z M cells slots pc L (.int y :: .int x :: st) F G := by
  obtain ⟨p, e, R', s, m, args, below, meth, c⟩ := M
  obtain ⟨rfl, hx, hb, -⟩ := hM
  intro H locs ls hH hS hl
  exact lv_icmp_ne hx hb hd ht (fun q => kt q H locs ls hH hS hl) (fun q => kf q H locs ls hH hS hl)
theorem aw_icmp_lt {x y : Int32} {off : Int} {tgt : Nat} (hM : MOk C own cc nL ret R M) (hd : decode cc pc = .ok (.if_icmp .lt off, 3)) (ht : (pc : Int) + off = (tgt : Int)) (kt : x < y → AW C nL Z M cells slots tgt L st F G) (kf : ¬ x < y → AW C nL Z M cells slots (pc + 3) L st F G) : AW C nL Z M cells slots pc L (.int y :: .int x :: st) F G := by
  obtain ⟨p, e, R', s, m, args, below, meth, c⟩ := M
  obtain ⟨rfl, hx, hb, -⟩ := hM
  intro H locs ls hH hS hl
  exact lv_icmp_lt hx hb hd ht (fun q => kt q H locs ls hH hS hl) (fun q => kf q H locs ls hH hS hl)
theorem aw_icmp_ge {x y : Int32} {off : Int} {tgt : Nat} (hM : MOk C own cc nL ret R M) (hd : decode cc pc = .ok (.if_icmp .ge off, 3)) (ht : (pc : Int) + off = (tgt : Int)) (kt : y ≤ x → AW C nL Z M cells slots tgt L st F G) (kf : ¬ y ≤ x → AW C nL Z M cells slots (pc + 3) L st F G) : AW C nL Z M cells slots pc L (.int y :: .int x :: st) F G := by
  obtain ⟨p, e, R', s, m, args, below, meth, c⟩ := M
  obtain ⟨rfl, hx, hb, -⟩ := hM
  intro H locs ls hH hS hl
  exact lv_icmp_ge hx hb hd ht (fun q => kt q H locs ls hH hS hl) (fun q => kf q H locs ls hH hS hl)
theorem aw_icmp_gt {x y : Int32} {off : Int} {tgt : Nat} (hM : MOk C own cc nL ret R M) (hd : decode cc pc = .ok (.if_icmp .gt off, 3)) (ht : (pc : Int) + off = (tgt : Int)) (kt : y < x → AW C nL Z M cells slots tgt L st F G) (kf : ¬ y < x → AW C nL Z M cells slots (pc + 3) L st F G) : AW C nL Z M cells slots pc L (.int y :: .int x :: st) F G := by
  obtain ⟨p, e, R', s, m, args, below, meth, c⟩ := M
  obtain ⟨rfl, hx, hb, -⟩ := hM
  intro H locs ls hH hS hl
  exact lv_icmp_gt hx hb hd ht (fun q => kt q H locs ls hH hS hl) (fun q => kf q H locs ls hH hS hl)
theorem aw_icmp_le {x y : Int32} {off : Int} {tgt : Nat} (hM : MOk C own cc nL ret R M) (hd : decode cc pc = .ok (.if_icmp .le off, 3)) (ht : (pc : Int) + off = (tgt : Int)) (kt : x ≤ y → AW C nL Z M cells slots tgt L st F G) (kf : ¬ x ≤ y → AW C nL Z M cells slots (pc + 3) L st F G) : AW C nL Z M cells slots pc L (.int y :: .int x :: st) F G := by
  obtain ⟨p, e, R', s, m, args, below, meth, c⟩ := M
  obtain ⟨rfl, hx, hb, -⟩ := hM
  intro H locs ls hH hS hl
  exact lv_icmp_le hx hb hd ht (fun q => kt q H locs ls hH hS hl) (fun q => kf q H locs ls hH hS hl)
theorem aw_goto {off : Int} {tgt : Nat} (hM : MOk C own cc nL ret R M) (hd : decode cc pc = .ok (.goto off, 3)) (ht : (pc : Int) + off = (tgt : Int)) (h : AW C nL Z M cells slots tgt L st F G) : AW C nL Z M cells slots pc L st F G := by
  obtain ⟨p, e, R', s, m, args, below, meth, c⟩ := M
  obtain ⟨rfl, hx, hb, -⟩ := hM
  intro H locs ls hH hS hl
  exact lv_goto hx hb hd ht (h H locs ls hH hS hl)
theorem aw_tableOut {dflt lo hi : Int} {offs : Array Int} {len tgt : Nat} {x : Int32} (hM : MOk C own cc nL ret R M) (hd : decode cc pc = .ok (.tableswitch dflt lo hi offs, len)) (hq : x.toInt < lo ∨ hi < x.toInt) (ht : (pc : Int) + dflt = (tgt : Int)) (h : AW C nL Z M cells slots tgt L st F G) : AW C nL Z M cells slots pc L (.int x :: st) F G := by
  obtain ⟨p, e, R', s, m, args, below, meth, c⟩ := M
  obtain ⟨rfl, hx, hb, -⟩ := hM
  intro H locs ls hH hS hl
  exact lv_tableOut hx hb hd hq ht (h H locs ls hH hS hl)
theorem aw_tableIn {dflt lo hi off : Int} {offs : Array Int} {len tgt : Nat} {x : Int32} (hM : MOk C own cc nL ret R M) (hd : decode cc pc = .ok (.tableswitch dflt lo hi offs, len)) (h1 : ¬ x.toInt < lo) (h2 : ¬ hi < x.toInt) (ho : offs[(x.toInt - lo).toNat]? = some off) (ht : (pc : Int) + off = (tgt : Int)) (h : AW C nL Z M cells slots tgt L st F G) : AW C nL Z M cells slots pc L (.int x :: st) F G := by
  obtain ⟨p, e, R', s, m, args, below, meth, c⟩ := M
  obtain ⟨rfl, hx, hb, -⟩ := hM
  intro H locs ls hH hS hl
  exact lv_tableIn hx hb hd h1 h2 ho ht (h H locs ls hH hS hl)
theorem aw_mmax {index : Nat} {x y : Int32} (hM : MOk C own cc nL ret R M) (w1 : GW (.methodLink own index Lib.Math.max.name)) (w2 : GW (.static Lib.Math.max.name)) (w3 : GW (.initialized "java/lang/Math")) (w4 : GW (.code Lib.Math.max.name Lib.Math.max.code 2 (some .int))) (hf : 1 ≤ R.frames) (hlo : (st.map fun v => v.category).sum + 13 ≤ R.locals) (hc : cells ≤ R.cells) (hs : slots ≤ R.slots) (hd : decode cc pc = .ok (.invokestatic index, 3)) (h : AW C nL Z M cells slots (pc + 3) L (.int (if x < y then y else x) :: st) F G) : AW C nL Z M cells slots pc L (.int y :: .int x :: st) F G := by
  obtain ⟨p, e, R', s, m, args, below, meth, c⟩ := M
  obtain ⟨rfl, hx, hb, hml, hown, hts, -⟩ := hM
  intro H locs ls hH hS hl
  exact va_mmax hx hb (by rw [hml]; exact hl.1.symm) hown (hts _ w1) (hts _ w2) (hts _ w3) (hts _ w4) hf (by rw [List.map_map, show ((fun v : Value => v.category) ∘ rv_ C.2.2.1) = (fun v => v.category) from funext (rv_cat _)]; exact hlo) hc hs hd (h H locs ls hH hS hl)
theorem aw_mmin {index : Nat} {x y : Int32} (hM : MOk C own cc nL ret R M) (w1 : GW (.methodLink own index Lib.Math.min.name)) (w2 : GW (.static Lib.Math.min.name)) (w3 : GW (.initialized "java/lang/Math")) (w4 : GW (.code Lib.Math.min.name Lib.Math.min.code 2 (some .int))) (hf : 1 ≤ R.frames) (hlo : (st.map fun v => v.category).sum + 13 ≤ R.locals) (hc : cells ≤ R.cells) (hs : slots ≤ R.slots) (hd : decode cc pc = .ok (.invokestatic index, 3)) (h : AW C nL Z M cells slots (pc + 3) L (.int (if y < x then y else x) :: st) F G) : AW C nL Z M cells slots pc L (.int y :: .int x :: st) F G := by
  obtain ⟨p, e, R', s, m, args, below, meth, c⟩ := M
  obtain ⟨rfl, hx, hb, hml, hown, hts, -⟩ := hM
  intro H locs ls hH hS hl
  exact va_mmin hx hb (by rw [hml]; exact hl.1.symm) hown (hts _ w1) (hts _ w2) (hts _ w3) (hts _ w4) hf (by rw [List.map_map, show ((fun v : Value => v.category) ∘ rv_ C.2.2.1) = (fun v => v.category) from funext (rv_cat _)]; exact hlo) hc hs hd (h H locs ls hH hS hl)
/-- a field by its class's number and its own: 'own' reads or writes it by the entry 'index' -/
def FLD (own : String) (index ci k : Nat) (T : u_T) (N : Nat) (Cn : String) : Prop := vwCl[ci]? = some (Cn, T, N) ∧ k < N ∧ GW (.fieldLink own index (T k).1 (T k).2.1 (T k).2.2.1) ∧ ∀ w ∈ u_ws Cn T N, GW w
theorem gw_hts {args : Array Value} {s : State} (h : ∀ w, GW w → w.before args s = true) : ∀ w ∈ lw_tbl.filter goodWord, w.before args s = true := fun w hw => h w (List.mem_filter.mp hw)
theorem sk_obj {aC : Nat → ClassId} {ρ : Nat → Nat} {F : MM} {G : GG} {a ci n : Nat} {rs : List Nat} (h : ci < 8) : sk_at aC ρ F G a (ci, n, rs) = .inr (ci, rs.mapIdx (fun i r => if r = 0 then .int (F a i) else .ref (ρ (r - 1)))) := by
  match ci, h with
  | 0, _ => rfl
  | 1, _ => rfl
  | 2, _ => rfl
  | 3, _ => rfl
  | 4, _ => rfl
  | 5, _ => rfl
  | 6, _ => rfl
  | 7, _ => rfl
theorem fld_lt {own : String} {index ci k : Nat} {T : u_T} {N : Nat} {Cn : String} (h : FLD own index ci k T N Cn) : ci < 8 := (List.getElem?_eq_some_iff.mp h.1).1
theorem aw_getI {index ci k a n : Nat} {T : u_T} {N : Nat} {Cn : String} {rs : List Nat} (hM : MOk C own cc nL ret R M) (hf : FLD own index ci k T N Cn) (hs : sk_list[a]? = some (ci, n, rs)) (hk : rs[k]? = some 0) (hd : decode cc pc = .ok (.getfield index, 3)) (h : AW C nL Z M cells slots (pc + 3) L (.int (F a k) :: st) F G) : AW C nL Z M cells slots pc L (.ref a :: st) F G := by
  obtain ⟨p, e, R', s, m, args, below, meth, c⟩ := M
  obtain ⟨rfl, hx, hb, hml, hown, hts, -, -, hK, -⟩ := hM
  intro H locs ls hH hS hl
  have hat := wld_at (aC := C.2.2.2.1) (ρ := C.2.2.1) (F := F) (G := G) hs
  rw [sk_obj (fld_lt hf)] at hat
  refine va_get (D := C.2.2.2.2) (v := .int (F a k)) hx hb (gw_hts hts) (fun w hw => gw_filter (hf.2.2.2 w hw)) hown hK hH.1 a hat hf.1 k hf.2.1 (hts _ hf.2.2.1) (fun _ h9 => h9) ?_ hd (h H locs ls hH hS hl)
  rw [List.getElem?_mapIdx, hk]
  rfl
theorem aw_getR {index ci k a n r : Nat} {T : u_T} {N : Nat} {Cn : String} {rs : List Nat} (hM : MOk C own cc nL ret R M) (hf : FLD own index ci k T N Cn) (hs : sk_list[a]? = some (ci, n, rs)) (hk : rs[k]? = some (r + 1)) (hd : decode cc pc = .ok (.getfield index, 3)) (h : AW C nL Z M cells slots (pc + 3) L (.ref r :: st) F G) : AW C nL Z M cells slots pc L (.ref a :: st) F G := by
  obtain ⟨p, e, R', s, m, args, below, meth, c⟩ := M
  obtain ⟨rfl, hx, hb, hml, hown, hts, -, -, hK, -⟩ := hM
  intro H locs ls hH hS hl
  have hat := wld_at (aC := C.2.2.2.1) (ρ := C.2.2.1) (F := F) (G := G) hs
  rw [sk_obj (fld_lt hf)] at hat
  refine va_get (D := C.2.2.2.2) (v := .ref (C.2.2.1 r)) hx hb (gw_hts hts) (fun w hw => gw_filter (hf.2.2.2 w hw)) hown hK hH.1 a hat hf.1 k hf.2.1 (hts _ hf.2.2.1) (fun _ h9 => h9) ?_ hd (h H locs ls hH hS hl)
  rw [List.getElem?_mapIdx, hk]
  rfl
/-- the plan of a state, read by a nest mate -/
theorem aw_getNest {a n r : Nat} {rs : List Nat} (hM : MOk C RX1 cc nL ret R M) (hw : ∀ w ∈ u_ws RX5 TX5 10, GW w) (hs : sk_list[a]? = some (3, n, rs)) (hk : rs[0]? = some (r + 1)) (hd : decode cc pc = .ok (.getfield 9, 3)) (h : AW C nL Z M cells slots (pc + 3) L (.ref r :: st) F G) : AW C nL Z M cells slots pc L (.ref a :: st) F G := by
  obtain ⟨p, e, R', s, m, args, below, meth, c⟩ := M
  obtain ⟨rfl, hx, hb, hml, hown, hts, -, -, hK, -, -, -, -, -, hN, -⟩ := hM
  intro H locs ls hH hS hl
  have hat := wld_at (aC := C.2.2.2.1) (ρ := C.2.2.1) (F := F) (G := G) hs
  rw [sk_obj (by decide)] at hat
  refine va_getN (D := C.2.2.2.2) (v := .ref (C.2.2.1 r)) (C := RX5) (T := TX5) (N := 10) hx hb (gw_hts hts) (fun w hq => gw_filter (hw w hq)) hown hK hH.1 a hat rfl 0 (by decide) (va_Nw.use rfl hN) (fun _ h9 => h9) ?_ hd (h H locs ls hH hS hl)
  rw [List.getElem?_mapIdx, hk]
  rfl
theorem aw_put {index ci k a n : Nat} {T : u_T} {N : Nat} {Cn : String} {rs : List Nat} {x : Int32} {ty : FieldType} {ty0 : Nat → FieldType} (hM : MOk C own cc nL ret R M) (hf : FLD own index ci k T N Cn) (hty : ∀ k, k < N → parseFieldDescriptor (T k).2.2.1 = some (ty0 k)) (hnm : ∀ a, a < N → ∀ b, b < N → a ≠ b → (T a).2.1 ≠ (T b).2.1) (hfin : (T k).2.2.2 = false) (hpd : parseFieldDescriptor (T k).2.2.1 = some ty) (hnar : narrow ty (.int x) = .int x) (hfit : fits ty (.int x) = true)
    (hs : sk_list[a]? = some (ci, n, rs)) (hk : rs[k]? = some 0) (hd : decode cc pc = .ok (.putfield index, 3)) (h : AW C nL Z M cells slots (pc + 3) L st (mup F a k x) G) : AW C nL Z M cells slots pc L (.int x :: .ref a :: st) F G := by
  obtain ⟨p, e, R', s, m, args, below, meth, c⟩ := M
  obtain ⟨rfl, hx, hb, hml, hown, hts, -, -, hK, -⟩ := hM
  intro H locs ls hH hS hl
  have hat := wld_at (aC := C.2.2.2.1) (ρ := C.2.2.1) (F := F) (G := G) hs
  rw [sk_obj (fld_lt hf)] at hat
  have hkl : k < rs.length := (List.getElem?_eq_some_iff.mp hk).1
  refine va_put (D := C.2.2.2.2) (v := .int x) hx hb (gw_hts hts) (fun w hw => gw_filter (hf.2.2.2 w hw)) ty0 hty hnm hown hK hH.1 hH.2 hS a hat hf.1 k hf.2.1 (hts _ hf.2.2.1) (fun _ h9 => h9) hfin hpd hnar hfit (by rw [List.length_mapIdx]; exact hkl) hd (fun H1 locs1 hP hD hS1 => ?_)
  have e1 := wld_set (aC := C.2.2.2.1) (ρ := C.2.2.1) (F := F) (F' := mup F a k x) (G := G) (G' := G) (x := .inr (ci, (rs.mapIdx (fun i r => if r = 0 then Value.int (F a i) else Value.ref (C.2.2.1 (r - 1)))).set k (.int x))) hs (by
    rw [sk_obj (fld_lt hf)]
    refine congrArg (fun z => Sum.inr (ci, z)) (List.ext_getElem? fun j => ?_)
    by_cases hj : j = k
    · subst hj
      rw [List.getElem?_set_self (by rw [List.length_mapIdx]; exact hkl), List.getElem?_mapIdx, hk]
      show some (Value.int (mup F a j x a j)) = _
      rw [mup_self]; simp [upd]
    · rw [List.getElem?_set_ne (Ne.symm hj), List.getElem?_mapIdx, List.getElem?_mapIdx]
      rw [mup_self]
      simp only [upd, if_neg hj]) (fun b e9 hne _ => sk_row (mup_ne hne) e9)
  rw [e1] at hP hD
  exact h H1 locs1 ls ⟨hP, hD⟩ hS1 hl
/-- arrays of ints -/
theorem aw_iald {a n : Nat} {rs : List Nat} {i : Int32} (hM : MOk C own cc nL ret R M) (hs : sk_list[a]? = some (9, n, rs)) (hi : inb i n = true) (hd : decode cc pc = .ok (.iaload, 1)) (h : AW C nL Z M cells slots (pc + 1) L (.int (F a (ix i)) :: st) F G) : AW C nL Z M cells slots pc L (.int i :: .ref a :: st) F G := by
  obtain ⟨p, e, R', s, m, args, below, meth, c⟩ := M
  obtain ⟨rfl, hx, hb, hml, hown, hts, -, -, hK, -⟩ := hM
  intro H locs ls hH hS hl
  exact va_iald hx hb hK hH.1 a 1 (wld_at hs) rfl (inb_in hi) hd (h H locs ls hH hS hl)
theorem aw_cald {a n : Nat} {rs : List Nat} {i : Int32} (hM : MOk C own cc nL ret R M) (hs : sk_list[a]? = some (8, n, rs)) (hi : inb i n = true) (hd : decode cc pc = .ok (.caload, 1)) (h : AW C nL Z M cells slots (pc + 1) L (.int (F a (ix i)) :: st) F G) : AW C nL Z M cells slots pc L (.int i :: .ref a :: st) F G := by
  obtain ⟨p, e, R', s, m, args, below, meth, c⟩ := M
  obtain ⟨rfl, hx, hb, hml, hown, hts, -, -, hK, -⟩ := hM
  intro H locs ls hH hS hl
  exact va_cald hx hb hK hH.1 a 0 (wld_at hs) rfl (inb_in hi) hd (h H locs ls hH hS hl)
theorem aw_zald {a n : Nat} {rs : List Nat} {i : Int32} (hM : MOk C own cc nL ret R M) (hs : sk_list[a]? = some (10, n, rs)) (hi : inb i n = true) (hd : decode cc pc = .ok (.baload, 1)) (h : AW C nL Z M cells slots (pc + 1) L (.int (F a (ix i)) :: st) F G) : AW C nL Z M cells slots pc L (.int i :: .ref a :: st) F G := by
  obtain ⟨p, e, R', s, m, args, below, meth, c⟩ := M
  obtain ⟨rfl, hx, hb, hml, hown, hts, -, -, hK, -⟩ := hM
  intro H locs ls hH hS hl
  exact va_zald hx hb hK hH.1 a 2 (wld_at hs) rfl (inb_in hi) hd (h H locs ls hH hS hl)
theorem aw_lald {a n : Nat} {rs : List Nat} {i : Int32} (hM : MOk C own cc nL ret R M) (hs : sk_list[a]? = some (12, n, rs)) (hi : inb i n = true) (hd : decode cc pc = .ok (.laload, 1)) (h : AW C nL Z M cells slots (pc + 1) L (.long (G (ix i)) :: st) F G) : AW C nL Z M cells slots pc L (.int i :: .ref a :: st) F G := by
  obtain ⟨p, e, R', s, m, args, below, meth, c⟩ := M
  obtain ⟨rfl, hx, hb, hml, hown, hts, -, -, hK, -⟩ := hM
  intro H locs ls hH hS hl
  exact va_lald hx hb hK hH.1 a 4 (wld_at hs) rfl (inb_in hi) hd (h H locs ls hH hS hl)
theorem aw_aald {a n r : Nat} {rs : List Nat} {i : Int32} (hM : MOk C own cc nL ret R M) (hs : sk_list[a]? = some (11, n, rs)) (hi : inb i n = true) (hr : rs[ix i]? = some r) (hd : decode cc pc = .ok (.aaload, 1)) (h : AW C nL Z M cells slots (pc + 1) L (.ref r :: st) F G) : AW C nL Z M cells slots pc L (.int i :: .ref a :: st) F G := by
  obtain ⟨p, e, R', s, m, args, below, meth, c⟩ := M
  obtain ⟨rfl, hx, hb, hml, hown, hts, -, -, hK, -⟩ := hM
  intro H locs ls hH hS hl
  refine va_aldq hx hb hK hH.1 a 3 (wld_at hs) rfl (inb_in hi) hd ?_
  have e1 : va_rf (rs[i.toNatClampNeg]?.map C.2.2.1) = Value.ref (C.2.2.1 r) := by
    rw [show rs[i.toNatClampNeg]? = some r from hr]; rfl
  rw [e1]
  exact h H locs ls hH hS hl
theorem aw_alen {a k n : Nat} {rs : List Nat} (hM : MOk C own cc nL ret R M) (hs : sk_list[a]? = some (9, n, rs)) (hd : decode cc pc = .ok (.arraylength, 1)) (h : AW C nL Z M cells slots (pc + 1) L (.int (Int32.ofNat n) :: st) F G) : AW C nL Z M cells slots pc L (.ref a :: st) F G := by
  obtain ⟨p, e, R', s, m, args, below, meth, c⟩ := M
  obtain ⟨rfl, hx, hb, hml, hown, hts, -, -, hK, -⟩ := hM
  intro H locs ls hH hS hl
  exact va_alen hx hb hK hH.1 a 1 (wld_at hs) rfl rfl hd (h H locs ls hH hS hl)
theorem aw_alenC {a k n : Nat} {rs : List Nat} (hM : MOk C own cc nL ret R M) (hs : sk_list[a]? = some (8, n, rs)) (hd : decode cc pc = .ok (.arraylength, 1)) (h : AW C nL Z M cells slots (pc + 1) L (.int (Int32.ofNat n) :: st) F G) : AW C nL Z M cells slots pc L (.ref a :: st) F G := by
  obtain ⟨p, e, R', s, m, args, below, meth, c⟩ := M
  obtain ⟨rfl, hx, hb, hml, hown, hts, -, -, hK, -⟩ := hM
  intro H locs ls hH hS hl
  exact va_alen hx hb hK hH.1 a 0 (wld_at hs) rfl rfl hd (h H locs ls hH hS hl)
theorem aw_iast {a n : Nat} {rs : List Nat} {i x : Int32} (hM : MOk C own cc nL ret R M) (hs : sk_list[a]? = some (9, n, rs)) (hi : inb i n = true) (hd : decode cc pc = .ok (.iastore, 1)) (h : AW C nL Z M cells slots (pc + 1) L st (mup F a (ix i) x) G) : AW C nL Z M cells slots pc L (.int x :: .int i :: .ref a :: st) F G := by
  obtain ⟨p, e, R', s, m, args, below, meth, c⟩ := M
  obtain ⟨rfl, hx, hb, hml, hown, hts, -, -, hK, -⟩ := hM
  intro H locs ls hH hS hl
  refine va_iast hx hb hK hH.1 hH.2 hS a 1 (wld_at hs) rfl (inb_in hi) hd (fun H1 locs1 hP hD hS1 => ?_)
  have e1 := wld_set (aC := C.2.2.2.1) (ρ := C.2.2.1) (F := F) (F' := mup F a (ix i) x) (G := G) (G' := G) (x := .inl (C.2.2.2.1 9, n, .inl (upd (F a) (ix i) x))) hs (by show Sum.inl (_, n, Sum.inl (mup F a (ix i) x a)) = _; rw [mup_self]) (fun b e9 hne _ => sk_row (mup_ne hne) e9)
  rw [e1] at hP hD
  exact h H1 locs1 ls ⟨hP, hD⟩ hS1 hl
theorem aw_cast {a n : Nat} {rs : List Nat} {i x : Int32} (hM : MOk C own cc nL ret R M) (hs : sk_list[a]? = some (8, n, rs)) (hi : inb i n = true) (hd : decode cc pc = .ok (.castore, 1)) (h : AW C nL Z M cells slots (pc + 1) L st (mup F a (ix i) (vp_nar .char x)) G) : AW C nL Z M cells slots pc L (.int x :: .int i :: .ref a :: st) F G := by
  obtain ⟨p, e, R', s, m, args, below, meth, c⟩ := M
  obtain ⟨rfl, hx, hb, hml, hown, hts, -, -, hK, -⟩ := hM
  intro H locs ls hH hS hl
  refine va_cast hx hb hK hH.1 hH.2 hS a 0 (wld_at hs) rfl (inb_in hi) hd (fun H1 locs1 hP hD hS1 => ?_)
  have e1 := wld_set (aC := C.2.2.2.1) (ρ := C.2.2.1) (F := F) (F' := mup F a (ix i) (vp_nar .char x)) (G := G) (G' := G) (x := .inl (C.2.2.2.1 8, n, .inl (upd (F a) (ix i) (vp_nar .char x)))) hs (by show Sum.inl (_, n, Sum.inl (mup F a (ix i) (vp_nar .char x) a)) = _; rw [mup_self]) (fun b e9 hne _ => sk_row (mup_ne hne) e9)
  rw [e1] at hP hD
  exact h H1 locs1 ls ⟨hP, hD⟩ hS1 hl
theorem aw_zast {a n : Nat} {rs : List Nat} {i x : Int32} (hM : MOk C own cc nL ret R M) (hs : sk_list[a]? = some (10, n, rs)) (hi : inb i n = true) (hd : decode cc pc = .ok (.bastore, 1)) (h : AW C nL Z M cells slots (pc + 1) L st (mup F a (ix i) (vp_nar .boolean x)) G) : AW C nL Z M cells slots pc L (.int x :: .int i :: .ref a :: st) F G := by
  obtain ⟨p, e, R', s, m, args, below, meth, c⟩ := M
  obtain ⟨rfl, hx, hb, hml, hown, hts, -, -, hK, -⟩ := hM
  intro H locs ls hH hS hl
  refine va_zast hx hb hK hH.1 hH.2 hS a 2 (wld_at hs) rfl (inb_in hi) hd (fun H1 locs1 hP hD hS1 => ?_)
  have e1 := wld_set (aC := C.2.2.2.1) (ρ := C.2.2.1) (F := F) (F' := mup F a (ix i) (vp_nar .boolean x)) (G := G) (G' := G) (x := .inl (C.2.2.2.1 10, n, .inl (upd (F a) (ix i) (vp_nar .boolean x)))) hs (by show Sum.inl (_, n, Sum.inl (mup F a (ix i) (vp_nar .boolean x) a)) = _; rw [mup_self]) (fun b e9 hne _ => sk_row (mup_ne hne) e9)
  rw [e1] at hP hD
  exact h H1 locs1 ls ⟨hP, hD⟩ hS1 hl
/-- the one row of longs stands at address 180 alone -/
theorem sk_long : ∀ b e, sk_list[b]? = some e → b ≠ 180 → e.1 ≠ 12 := by
  have h : (sk_list.mapIdx (fun b e => decide (b = 180) || !(decide (e.1 = 12)))).all id = true := by decide +kernel
  intro b e hb hne h12
  have h1 := List.all_eq_true.mp h (decide (b = 180) || !(decide (e.1 = 12))) (List.mem_of_getElem? (i := b) (by rw [List.getElem?_mapIdx, hb]; rfl))
  simp [hne, h12] at h1
theorem sk_G {aC : Nat → ClassId} {ρ : Nat → Nat} {F : MM} {G G' : GG} {b : Nat} {e : Nat × Nat × List Nat} (h : e.1 ≠ 12) : sk_at aC ρ F G' b e = sk_at aC ρ F G b e := by
  unfold sk_at
  split <;> first | rfl | (exact absurd rfl h)
theorem aw_last {n : Nat} {rs : List Nat} {i : Int32} {x : Int64} (hM : MOk C own cc nL ret R M) (hs : sk_list[180]? = some (12, n, rs)) (hi : inb i n = true) (hd : decode cc pc = .ok (.lastore, 1)) (h : AW C nL Z M cells slots (pc + 1) L st F (vp_updL G (ix i) x)) : AW C nL Z M cells slots pc L (.long x :: .int i :: .ref 180 :: st) F G := by
  obtain ⟨p, e, R', s, m, args, below, meth, c⟩ := M
  obtain ⟨rfl, hx, hb, hml, hown, hts, -, -, hK, -⟩ := hM
  intro H locs ls hH hS hl
  refine va_last hx hb hK hH.1 hH.2 hS 180 4 (wld_at hs) rfl (inb_in hi) hd (fun H1 locs1 hP hD hS1 => ?_)
  have e1 := wld_set (aC := C.2.2.2.1) (ρ := C.2.2.1) (F := F) (F' := F) (G := G) (G' := vp_updL G (ix i) x) (x := .inl (C.2.2.2.1 12, n, .inr (.inl (vp_updL G (ix i) x)))) hs rfl (fun b e9 hne he => sk_G (sk_long b e9 he hne))
  rw [e1] at hP hD
  exact h H1 locs1 ls ⟨hP, hD⟩ hS1 hl
/-- System.arraycopy of ints -/
theorem aw_copy {index a0 a n0 n1 : Nat} {rs0 rs1 : List Nat} {sp dp n : Int32} (hM : MOk C own cc nL ret R M) (w1 : GW (.methodLink own index arraycopyName)) (w2 : GW (.native arraycopyName)) (w3 : GW (.static arraycopyName)) (w4 : GW (.initialized "java/lang/System")) (hs0 : sk_list[a0]? = some (9, n0, rs0)) (hs1 : sk_list[a]? = some (9, n1, rs1))
    (h1 : ¬ sp < 0) (h2 : ¬ dp < 0) (h3 : ¬ n < 0) (h4 : ix sp + ix n ≤ n0) (h5 : ix dp + ix n ≤ n1) (hf : 1 ≤ R.frames) (hlo : (st.map fun v => v.category).sum + (nativeFrameWords "java/lang/System" "arraycopy" 5 + 11) ≤ R.locals) (hd : decode cc pc = .ok (.invokestatic index, 3))
    (h : AW C nL Z M cells slots (pc + 3) L st (mrow F a (va_cpy (F a0) (F a) (ix sp) (ix dp) (ix n))) G) : AW C nL Z M cells slots pc L (.int n :: .int dp :: .ref a :: .int sp :: .ref a0 :: st) F G := by
  obtain ⟨p, e, R', s, m, args, below, meth, c⟩ := M
  obtain ⟨rfl, hx, hb, hml, hown, hts, -, -, hK, -⟩ := hM
  intro H locs ls hH hS hl
  refine va_copyi hx hb (by rw [hml]; exact hl.1.symm) hown (hts _ w1) (hts _ w2) (hts _ w3) (hts _ w4) hK hH.1 hH.2 hS a0 a 1 1 (wld_at hs0) (wld_at hs1) rfl rfl rfl h1 h2 h3 h4 h5 (fun i _ => rfl) hf (by rw [List.map_map, show ((fun v : Value => v.category) ∘ rv_ C.2.2.1) = (fun v => v.category) from funext (rv_cat _)]; exact hlo) hd (fun H1 locs1 hP hD hS1 => ?_)
  have e1 := wld_set (aC := C.2.2.2.1) (ρ := C.2.2.1) (F := F) (F' := mrow F a (va_cpy (F a0) (F a) (ix sp) (ix dp) (ix n))) (G := G) (G' := G) (x := .inl (C.2.2.2.1 9, n1, .inl (va_cpy (F a0) (F a) (ix sp) (ix dp) (ix n)))) hs1 (by show Sum.inl (_, n1, Sum.inl (mrow F a (va_cpy (F a0) (F a) (ix sp) (ix dp) (ix n)) a)) = _; rw [mrow_self]) (fun b e9 hne _ => sk_row (mrow_ne hne) e9)
  rw [e1] at hP hD
  exact h H1 locs1 ls ⟨hP, hD⟩ hS1 hl
end AWL
end
section
section AWC
variable {C : CX} {own : String} {cc : ByteArray} {nL : Nat} {ret : Option FieldType} {R : Room} {M : MX} {Z : State → Prop} {cells slots pc : Nat} {L : List (Option Value)} {st : List Value} {F : MM} {G : GG}
/-- the answers -/
theorem aw_iret {rm : Room} {Q : OUT → MM → GG → Prop} {v : Int32} (hM : MOk C own cc nL (some .int) R M) (hd : decode cc pc = .ok (.ireturn, 1)) (hc : cells ≤ rm.cells) (hs : slots ≤ rm.slots) (hq : Q (.inl (some (.int v))) F G) : AW C nL (ZM C rm Q M) M cells slots pc L [.int v] F G := by
  obtain ⟨p, e, R', s, m, args, below, meth, c⟩ := M
  obtain ⟨rfl, hx, hb, hml, hown, hts, hr, hlk, hK⟩ := hM
  intro H locs ls hH hS hl
  refine W.widen hc hs ?_
  exact vx_ret (W.iret (v := v) hx hb hr (fun t ht hW => ⟨some (.int v), F, G, rfl, hq, by rw [ht]; exact hH, hS.F ht⟩) hS.2.2 hd hlk)
theorem aw_zret {rm : Room} {Q : OUT → MM → GG → Prop} {v : Int32} (hM : MOk C own cc nL (some .boolean) R M) (hd : decode cc pc = .ok (.ireturn, 1)) (hv : v &&& 1 = v) (hc : cells ≤ rm.cells) (hs : slots ≤ rm.slots) (hq : Q (.inl (some (.int v))) F G) : AW C nL (ZM C rm Q M) M cells slots pc L [.int v] F G := by
  obtain ⟨p, e, R', s, m, args, below, meth, c⟩ := M
  obtain ⟨rfl, hx, hb, hml, hown, hts, hr, hlk, hK⟩ := hM
  intro H locs ls hH hS hl
  refine W.widen hc hs ?_
  exact vx_ret (W.zret (v := v) (ty := .boolean) hx hb hr (by show Value.int (v &&& 1) = _; rw [hv]) (fun t ht hW => ⟨some (.int v), F, G, rfl, hq, by rw [ht]; exact hH, hS.F ht⟩) hS.2.2 hd hlk)
theorem aw_lret {rm : Room} {Q : OUT → MM → GG → Prop} {v : Int64} (hM : MOk C own cc nL (some .long) R M) (hd : decode cc pc = .ok (.lreturn, 1)) (hc : cells ≤ rm.cells) (hs : slots ≤ rm.slots) (hq : Q (.inl (some (.long v))) F G) : AW C nL (ZM C rm Q M) M cells slots pc L [.long v] F G := by
  obtain ⟨p, e, R', s, m, args, below, meth, c⟩ := M
  obtain ⟨rfl, hx, hb, hml, hown, hts, hr, hlk, hK⟩ := hM
  intro H locs ls hH hS hl
  refine W.widen hc hs ?_
  exact vx_ret (W.lret (v := v) hx hb hr (fun t ht hW => ⟨some (.long v), F, G, rfl, hq, by rw [ht]; exact hH, hS.F ht⟩) hS.2.2 hd hlk)
theorem aw_vret {rm : Room} {Q : OUT → MM → GG → Prop} (hM : MOk C own cc nL none R M) (hd : decode cc pc = .ok (.return_, 1)) (hc : cells ≤ rm.cells) (hs : slots ≤ rm.slots) (hq : Q (.inl none) F G) : AW C nL (ZM C rm Q M) M cells slots pc L [] F G := by
  obtain ⟨p, e, R', s, m, args, below, meth, c⟩ := M
  obtain ⟨rfl, hx, hb, hml, hown, hts, hr, hlk, hK⟩ := hM
  intro H locs ls hH hS hl
  refine W.widen hc hs ?_
  exact vx_ret (W.vret hx hb hr (fun t ht hW => ⟨none, F, G, rfl, hq, by rw [ht]; exact hH, hS.F ht⟩) hS.2.2 hd hlk)
/-- thrown on to the caller -/
theorem ax_out {rm : Room} {Q : OUT → MM → GG → Prop} {E : String} (hM : MOk C own cc nL ret R M) (hT : MNoT M) (hc : cells ≤ rm.cells) (hs : slots ≤ rm.slots) (hq : Q (.inr E) F G) : AX C nL (ZM C rm Q M) E M cells slots pc L F G := by
  obtain ⟨p, e, R', s, m, args, below, meth, c⟩ := M
  obtain ⟨rfl, hx, hb, hml, hown, hts, hr, hlk, hK⟩ := hM
  intro H locs ls rest ce q hH hS hl hce hcv hcl
  exact vx_out (fun x hx9 => absurd (hT x hx9) id) hlk hce hcv hcl (fun t ht _ => ⟨F, G, hq, by rw [ht]; exact hH, hS.F ht⟩) hS.2.2 hc hs
/-- what is behind a call -/
theorem aw_ofRun {mc ms : Nat} {a : Array Value} {Q : OUT → MM → GG → Prop} {st0 : List Value}
    (p : Program) (e : Env) (s : State) (m : MethodId) (args : Array Value) (below : List Frame) (meth : Method) (c : Code) (H : Heap) (locs : List Loc) (ls : Array Slot) (hS : va_S (fun q => C.2.1 ≤ q) s.heap H locs) (hl : lvR C.2.2.1 ls nL L)
    (hr : vx_Run p C.1 e R s m args below meth c H locs cells slots mc ms (F0 m pc ls st0) (st.map (rv_ C.2.2.1)) (QcO C Q a) (XCO C Q) (fun q => C.2.1 ≤ q))
    (hret : ∀ r F' G', Q (.inl r) F' G' → AW C nL Z (p, e, R, s, m, args, below, meth, c) (cells + mc) (slots + ms) (pc + 3) L (r.toList ++ st) F' G')
    (hthr : ∀ E F' G', Q (.inr E) F' G' → AX C nL Z E (p, e, R, s, m, args, below, meth, c) (cells + mc) (slots + ms) pc L F' G') :
    W p C.1 e R s m args below meth c H locs cells slots Z (F0 m pc ls st0) := by
  intro T hT X
  rcases hr T hT X with ⟨v, st₀, t, T', L1, h0, X', hL1, e1, e2, ⟨r, F', G', hv, hq, hH', hF⟩, stp⟩ | ⟨q, st₀, t, T', L1, E, ce, h0, X', hL1, e1, e2, ⟨F', G', hq, hH', hF⟩, hce, hcv, hcl, stp⟩
  · obtain ⟨k1, k2, k3⟩ := vx_keep h0 e1 hS (A1 := fun q => C.2.1 ≤ q) (fun q _ h => h) (fun q h => h) hL1 hF
    cases hv
    obtain ⟨t2, a1, b1⟩ := hret r F' G' hq T'.heap (locs ++ L1) ls (by rw [e1]; exact hH') k3 hl T' rfl X'
    refine ⟨t2, stp t2 ?_, b1⟩
    have e9 : (r.map (rv_ C.2.2.1)).toList ++ st.map (rv_ C.2.2.1) = (r.toList ++ st).map (rv_ C.2.2.1) := by cases r <;> rfl
    rw [e9]
    exact a1
  · obtain ⟨k1, k2, k3⟩ := vx_keep h0 e1 hS (A1 := fun q => C.2.1 ≤ q) (fun q _ h => h) (fun q h => h) hL1 hF
    obtain ⟨t2, a1, b1⟩ := hthr E F' G' hq T'.heap (locs ++ L1) ls (st.map (rv_ C.2.2.1)) ce q (by rw [e1]; exact hH') k3 hl (by rw [e1]; exact hce) hcv hcl T' rfl X'
    exact ⟨t2, stp.trans a1, b1⟩
theorem am_blind {y : MethodName} {av : List Value} : FrameBlind (va_Pc (av.map (rv_ C.2.2.1)) (fun U => XK C U ∧ XH C F G U.heap)) := by
  intro a U g mk h
  obtain ⟨h1, h2, h3⟩ := h
  exact ⟨h1, XK.moved (U := U.calling g mk a) (H := U.heap) (locs := []) h2 va_S.rf rfl (State.WarmedH.refl U), h3⟩
/-- the words of a call: of an instance method by its name, of a static one -/
def CWV (own : String) (index : Nat) (y : MethodName) (bytes : ByteArray) (maxL : Nat) (rt : Option FieldType) : Prop := GW (.methodLink own index y) ∧ GW (.instanceMethod y) ∧ GW (.selects y.cls y y) ∧ GW (.initialized y.cls) ∧ GW (.code y bytes maxL rt) ∧ y.cls ≠ "java/lang/invoke/MethodHandle" ∧ y.cls ≠ "java/lang/invoke/VarHandle"
def CWS (own : String) (index : Nat) (y : MethodName) (bytes : ByteArray) (maxL : Nat) (rt : Option FieldType) : Prop := GW (.methodLink own index y) ∧ GW (.static y) ∧ GW (.initialized y.cls) ∧ GW (.code y bytes maxL rt) ∧ y.cls ≠ "java/lang/invoke/MethodHandle" ∧ y.cls ≠ "java/lang/invoke/VarHandle"
theorem wsO_ok {s : State} {args : Array Value} {y : MethodName} {bytes : ByteArray} {maxL : Nat} {rt : Option FieldType} (hts : ∀ w, GW w → w.before args s = true) (hc : GW (.code y bytes maxL rt)) : ∀ w ∈ wsO y bytes maxL rt, ∀ (a' : Array Value) (U : State), s.WarmedH U.vm → w.before a' U = true := by
  intro w hw a' U hW
  have hg : GW w := by
    rcases List.mem_cons.mp hw with h | h
    · rw [h]; exact hc
    · exact List.mem_filter.mp h
  exact word_at hW (good_of_word hg.2) (hts w hg)
theorem cat_map (ρ : Nat → Nat) (st : List Value) : ((st.map (rv_ ρ)).map fun v => v.category) = st.map fun v => v.category := by
  rw [List.map_map, show ((fun v : Value => v.category) ∘ rv_ ρ) = (fun v => v.category) from funext (rv_cat _)]
theorem aw_callV {index b n0 ci n : Nat} {rs : List Nat} {y : MethodName} {bytes : ByteArray} {maxL : Nat} {rt : Option FieldType} {rm : Room} {As st0 : List Value} {q : vw_C} {Q : OUT → MM → GG → Prop} (hM : MOk C own cc nL ret R M) (hA : AM C y bytes maxL rt rm (.ref b :: As) F G Q) (cw : CWV own index y bytes maxL rt)
    (hs : sk_list[b]? = some (ci, n0, rs)) (hq : vwCl[ci]? = some q) (hqc : q.1 = y.cls) (hn : (parseMethodDescriptor y.desc).map (fun d => d.parameters.length) = some n) (hAs : As.length = n) (hst : As.reverse ++ .ref b :: st = st0) (hR : rm.frames + 1 ≤ R.frames ∧ 8 + (maxL + 11) + rm.locals ≤ R.locals) (hw : (st.map fun v => v.category).sum ≤ 8) (hf : cells + rm.cells ≤ R.cells ∧ slots + rm.slots ≤ R.slots) (hd : decode cc pc = .ok (.invokevirtual index, 3))
    (hret : ∀ r F' G', Q (.inl r) F' G' → AW C nL Z M (cells + rm.cells) (slots + rm.slots) (pc + 3) L (r.toList ++ st) F' G')
    (hthr : ∀ E F' G', Q (.inr E) F' G' → AX C nL Z E M (cells + rm.cells) (slots + rm.slots) pc L F' G') : AW C nL Z M cells slots pc L st0 F G := by
  subst hst
  obtain ⟨p, e, R', s, m, args, below, meth, c⟩ := M
  obtain ⟨rfl, hx, hb, hml, hown, hts, hr9, hlk, hK⟩ := hM
  obtain ⟨c1, c2, c3, c4, c5, c6, c7⟩ := cw
  intro H locs ls hH hS hl
  have hci : ci < 8 := (List.getElem?_eq_some_iff.mp hq).1
  have hat := wld_at (aC := C.2.2.2.1) (ρ := C.2.2.1) (F := F) (G := G) hs
  rw [sk_obj hci] at hat
  have hlen : ∀ sig, parseMethodDescriptor y.desc = some sig → n = sig.parameters.length := fun sig h => by
    rw [h] at hn; exact (Option.some.inj hn).symm
  refine aw_ofRun (Q := Q) (mc := rm.cells) (ms := rm.slots) (a := (Value.ref (C.2.2.1 b) :: As.map (rv_ C.2.2.1)).toArray) p e s m args below meth c H locs ls hS hl ?_ hret hthr
  refine vx_runV (Ts := lw_tbl.filter goodWord) (C := y.cls) (As := As.map (rv_ C.2.2.1)) (b := C.2.2.1 b) (rest := st.map (rv_ C.2.2.1)) ⟨hx, hb, hml, hown, gw_hts hts⟩ hA
    ⟨⟨rfl, rfl, hR.1, hR.2, wsO_ok hts c5, List.mem_cons_self, hts _ c5, hts _ c4, ⟨c6, c7⟩, hlen, hts _ c1⟩, hts _ c2, hts _ c3⟩
    ⟨am_blind (y := y), by rw [← hqc]; exact va_recv hK.1 hH.1 (q0 := b) hq hat, fun U hU hW => ⟨rfl, hK.moved hS hU hW, by rw [hU]; exact hH⟩⟩ rfl (by rw [List.length_map]; exact hAs) hl.1 ?_ (lv_room (by rw [cat_map]; exact hw)) hd hf
  show ((As.reverse ++ Value.ref b :: st).map (rv_ C.2.2.1)) = _
  rw [List.map_append, List.map_reverse]
  rfl
theorem aw_callS {index n : Nat} {y : MethodName} {bytes : ByteArray} {maxL : Nat} {rt : Option FieldType} {rm : Room} {As st0 : List Value} {Q : OUT → MM → GG → Prop} (hM : MOk C own cc nL ret R M) (hA : AM C y bytes maxL rt rm As F G Q) (cw : CWS own index y bytes maxL rt)
    (hn : (parseMethodDescriptor y.desc).map (fun d => d.parameters.length) = some n) (hAs : As.length = n) (hst : As.reverse ++ st = st0) (hR : rm.frames + 1 ≤ R.frames ∧ 8 + (maxL + 11) + rm.locals ≤ R.locals) (hw : (st.map fun v => v.category).sum ≤ 8) (hf : cells + rm.cells ≤ R.cells ∧ slots + rm.slots ≤ R.slots) (hd : decode cc pc = .ok (.invokestatic index, 3))
    (hret : ∀ r F' G', Q (.inl r) F' G' → AW C nL Z M (cells + rm.cells) (slots + rm.slots) (pc + 3) L (r.toList ++ st) F' G')
    (hthr : ∀ E F' G', Q (.inr E) F' G' → AX C nL Z E M (cells + rm.cells) (slots + rm.slots) pc L F' G') : AW C nL Z M cells slots pc L st0 F G := by
  subst hst
  obtain ⟨p, e, R', s, m, args, below, meth, c⟩ := M
  obtain ⟨rfl, hx, hb, hml, hown, hts, hr9, hlk, hK⟩ := hM
  obtain ⟨c1, c2, c4, c5, c6, c7⟩ := cw
  intro H locs ls hH hS hl
  have hlen : ∀ sig, parseMethodDescriptor y.desc = some sig → n = sig.parameters.length := fun sig h => by
    rw [h] at hn; exact (Option.some.inj hn).symm
  refine aw_ofRun (Q := Q) (mc := rm.cells) (ms := rm.slots) (a := (As.map (rv_ C.2.2.1)).toArray) p e s m args below meth c H locs ls hS hl ?_ hret hthr
  refine vx_runS (Ts := lw_tbl.filter goodWord) (As := As.map (rv_ C.2.2.1)) (rest := st.map (rv_ C.2.2.1)) ⟨hx, hb, hml, hown, gw_hts hts⟩ hA
    ⟨⟨rfl, rfl, hR.1, hR.2, wsO_ok hts c5, List.mem_cons_self, hts _ c5, hts _ c4, ⟨c6, c7⟩, hlen, hts _ c1⟩, hts _ c2⟩
    ⟨am_blind (y := y), fun U hU hW => ⟨rfl, hK.moved hS hU hW, by rw [hU]; exact hH⟩⟩ rfl (by rw [List.length_map]; exact hAs) hl.1 ?_ (lv_room (by rw [cat_map]; exact hw)) hd hf
  show ((As.reverse ++ st).map (rv_ C.2.2.1)) = _
  rw [List.map_append, List.map_reverse]
/-- 'throw new E(text)' where nothing catches it -/
def ex_up : List String := ["java/lang/RuntimeException", "java/lang/Exception"]
def THR (own : String) (ik is ic : Nat) (cls text : String) : Prop := (own = RX8 ∧ (is, text) ∈ st_list) ∧ Bundle.fit cls = true ∧ GW (.classLink own ik cls) ∧ GW (.initialized cls) ∧ (∀ w ∈ vx_atS own ic cls ex_up, GW w ∨ w ∈ bw_list) ∧ ∀ w ∈ Cond.classLink own ik cls :: Cond.initialized cls :: vx_atS own ic cls ex_up, vx_ot w = true
theorem thr_words {args : Array Value} {s : State} {own cls text : String} {ik is ic : Nat} (h : THR own ik is ic cls text) (hts : ∀ w, GW w → w.before args s = true) (hbw : ∀ w ∈ bw_list, va_Nw w s) : ∀ w ∈ vx_atS own ic cls ex_up, w.before args s = true := by
  intro w hw
  rcases h.2.2.2.2.1 w hw with h1 | h1
  · exact hts w h1
  · refine va_Nw.use ?_ (hbw w h1)
    simp only [bw_list, List.mem_cons, List.not_mem_nil, or_false] at h1
    rcases h1 with rfl | rfl | rfl <;> rfl
theorem aw_throwS {rm : Room} {Q : OUT → MM → GG → Prop} {ik is ic : Nat} {cls text : String} (hM : MOk C own cc nL ret R M) (hT : MNoT M) (h : THR own ik is ic cls text)
    (d0 : decode cc pc = .ok (.new ik, 3)) (d3 : decode cc (pc + 3) = .ok (.dup, 1)) (d4 : decode cc (pc + 4) = .ok (.ldc is, 2)) (d6 : decode cc (pc + 6) = .ok (.invokespecial ic, 3)) (d9 : decode cc (pc + 9) = .ok (.athrow, 1))
    (hRf : 5 < R.frames) (hRl : (st.map fun v => v.category).sum + 82 ≤ R.locals) (hRc : cells + 1 ≤ R.cells) (hRs : slots + 6 ≤ R.slots) (hc : cells + 1 ≤ rm.cells) (hs : slots + 6 ≤ rm.slots) (hq : Q (.inr cls) F G) : AW C nL (ZM C rm Q M) M cells slots pc L st F G := by
  obtain ⟨p, e, R', s, m, args, below, meth, c⟩ := M
  obtain ⟨rfl, hx, hb, hml, hown, hts, hr, hlk, hK⟩ := hM
  have hat := thr_words h hts hK.2.2.2.2.2.1
  obtain ⟨⟨rfl, h1⟩, h2, h3, h4, -, h6⟩ := h
  obtain ⟨k1, k2, k3, k4, k5, k6, k7, k8, k9⟩ := hK
  obtain ⟨sa, hstr⟩ := k5 _ h1
  intro H locs ls hH hS hl
  refine vx_throwS (text := text) (names := ex_up) (sa := sa) hx hb k8 hown h2 (by decide +kernel) (hts _ h3) (hts _ h4) hstr hat h6 k3 k4 hS (hl.1.trans hml.symm) d0 d3 d4 d6 d9 (fun x hx9 => absurd (hT x hx9) id) hRf (by rw [cat_map]; exact hRl) hRc hRs hlk (fun t hal hz hk => ?_) hS.2.2 hc hs
  refine ⟨F, G, hq, ⟨hH.1.kept (fun k q hq9 => hk _ ((hH.1 k q hq9).lt)), hH.2⟩, ⟨Nat.le_trans hS.1 hz, fun q9 hq1 hq2 => ?_⟩⟩
  rw [hk q9 (Nat.lt_of_lt_of_le hq1 hS.1)]
  exact hS.2.1 q9 hq1 hq2
theorem aw_throwSW {rm : Room} {Q : OUT → MM → GG → Prop} {ik is ic : Nat} {cls text : String} (hM : MOk C own cc nL ret R M) (hT : MNoT M) (h : THR own ik is ic cls text)
    (d0 : decode cc pc = .ok (.new ik, 3)) (d3 : decode cc (pc + 3) = .ok (.dup, 1)) (d4 : decode cc (pc + 4) = .ok (.ldc_w is, 3)) (d7 : decode cc (pc + 7) = .ok (.invokespecial ic, 3)) (d10 : decode cc (pc + 10) = .ok (.athrow, 1))
    (hRf : 5 < R.frames) (hRl : (st.map fun v => v.category).sum + 82 ≤ R.locals) (hRc : cells + 1 ≤ R.cells) (hRs : slots + 6 ≤ R.slots) (hc : cells + 1 ≤ rm.cells) (hs : slots + 6 ≤ rm.slots) (hq : Q (.inr cls) F G) : AW C nL (ZM C rm Q M) M cells slots pc L st F G := by
  obtain ⟨p, e, R', s, m, args, below, meth, c⟩ := M
  obtain ⟨rfl, hx, hb, hml, hown, hts, hr, hlk, hK⟩ := hM
  have hat := thr_words h hts hK.2.2.2.2.2.1
  obtain ⟨⟨rfl, h1⟩, h2, h3, h4, -, h6⟩ := h
  obtain ⟨k1, k2, k3, k4, k5, k6, k7, k8, k9⟩ := hK
  obtain ⟨sa, hstr⟩ := k5 _ h1
  intro H locs ls hH hS hl
  refine vx_throwSW (text := text) (names := ex_up) (sa := sa) hx hb k8 hown h2 (by decide +kernel) (hts _ h3) (hts _ h4) hstr hat h6 k3 k4 hS (hl.1.trans hml.symm) d0 d3 d4 d7 d10 (fun x hx9 => absurd (hT x hx9) id) hRf (by rw [cat_map]; exact hRl) hRc hRs hlk (fun t hal hz hk => ?_) hS.2.2 hc hs
  refine ⟨F, G, hq, ⟨hH.1.kept (fun k q hq9 => hk _ ((hH.1 k q hq9).lt)), hH.2⟩, ⟨Nat.le_trans hS.1 hz, fun q9 hq1 hq2 => ?_⟩⟩
  rw [hk q9 (Nat.lt_of_lt_of_le hq1 hS.1)]
  exact hS.2.1 q9 hq1 hq2
/-- fewer known locals -/
theorem aw_weak {L' : List (Option Value)} (h : AW C nL Z M cells slots pc L' st F G) (hs : ∀ (i : Nat) (v : Value), L'[i]? = some (some v) → L[i]? = some (some v)) : AW C nL Z M cells slots pc L st F G := by
  obtain ⟨p, e, R', s, m, args, below, meth, c⟩ := M
  intro H locs ls hH hS hl
  exact h H locs ls hH hS (hl.sub hs)
theorem aw_widen {k n : Nat} (h1 : cells ≤ k) (h2 : slots ≤ n) (h : AW C nL Z M k n pc L st F G) : AW C nL Z M cells slots pc L st F G := by
  obtain ⟨p, e, R', s, m, args, below, meth, c⟩ := M
  intro H locs ls hH hS hl
  exact W.widen h1 h2 (h H locs ls hH hS hl)
end AWC
end
section
theorem zz_bad : (1:Nat) = 2 := by decide
theorem zz_t {C : CX} {s : State} (h : XK C s) : C.2.1 ≤ s.heap.size := h.2.1
end

theorem dL_append_0 : decode cL_append 0 = .ok (.aload_n 2, 1) := by decide +kernel
theorem dL_append_1 : decode cL_append 1 = .ok (.iconst 0, 1) := by decide +kernel
theorem dL_append_2 : decode cL_append 2 = .ok (.aload_n 0, 1) := by decide +kernel
theorem dL_append_3 : decode cL_append 3 = .ok (.iload_n 1, 1) := by decide +kernel
theorem dL_append_4 : decode cL_append 4 = .ok (.invokevirtual 7, 3) := by decide +kernel
theorem dL_append_7 : decode cL_append 7 = .ok (.i2l, 1) := by decide +kernel
theorem dL_append_8 : decode cL_append 8 = .ok (.lastore, 1) := by decide +kernel
theorem dL_append_9 : decode cL_append 9 = .ok (.goto 9, 3) := by decide +kernel
theorem dL_append_12 : decode cL_append 12 = .ok (.astore_n 3, 1) := by decide +kernel
theorem dL_append_13 : decode cL_append 13 = .ok (.iconst 1, 1) := by decide +kernel
theorem dL_append_14 : decode cL_append 14 = .ok (.ireturn, 1) := by decide +kernel
theorem dL_append_15 : decode cL_append 15 = .ok (.astore_n 3, 1) := by decide +kernel
theorem dL_append_16 : decode cL_append 16 = .ok (.iconst 2, 1) := by decide +kernel
theorem dL_append_17 : decode cL_append 17 = .ok (.ireturn, 1) := by decide +kernel
theorem dL_append_18 : decode cL_append 18 = .ok (.iconst 0, 1) := by decide +kernel
theorem dL_append_19 : decode cL_append 19 = .ok (.ireturn, 1) := by decide +kernel
theorem dL_load_0 : decode cL_load 0 = .ok (.aload_n 1, 1) := by decide +kernel
theorem dL_load_1 : decode cL_load 1 = .ok (.iconst 0, 1) := by decide +kernel
theorem dL_load_2 : decode cL_load 2 = .ok (.aload_n 0, 1) := by decide +kernel
theorem dL_load_3 : decode cL_load 3 = .ok (.invokevirtual 17, 3) := by decide +kernel
theorem dL_load_6 : decode cL_load 6 = .ok (.i2l, 1) := by decide +kernel
theorem dL_load_7 : decode cL_load 7 = .ok (.lastore, 1) := by decide +kernel
theorem dL_load_8 : decode cL_load 8 = .ok (.goto 6, 3) := by decide +kernel
theorem dL_load_11 : decode cL_load 11 = .ok (.astore_n 2, 1) := by decide +kernel
theorem dL_load_12 : decode cL_load 12 = .ok (.iconst 1, 1) := by decide +kernel
theorem dL_load_13 : decode cL_load 13 = .ok (.ireturn, 1) := by decide +kernel
theorem dL_load_14 : decode cL_load 14 = .ok (.iconst 0, 1) := by decide +kernel
theorem dL_load_15 : decode cL_load 15 = .ok (.ireturn, 1) := by decide +kernel
theorem dL_about_0 : decode cL_about 0 = .ok (.aload_n 2, 1) := by decide +kernel
theorem dL_about_1 : decode cL_about 1 = .ok (.iconst 0, 1) := by decide +kernel
theorem dL_about_2 : decode cL_about 2 = .ok (.aload_n 0, 1) := by decide +kernel
theorem dL_about_3 : decode cL_about 3 = .ok (.iload_n 1, 1) := by decide +kernel
theorem dL_about_4 : decode cL_about 4 = .ok (.invokevirtual 21, 3) := by decide +kernel
theorem dL_about_7 : decode cL_about 7 = .ok (.i2l, 1) := by decide +kernel
theorem dL_about_8 : decode cL_about 8 = .ok (.lastore, 1) := by decide +kernel
theorem dL_about_9 : decode cL_about 9 = .ok (.goto 6, 3) := by decide +kernel
theorem dL_about_12 : decode cL_about 12 = .ok (.astore_n 3, 1) := by decide +kernel
theorem dL_about_13 : decode cL_about 13 = .ok (.iconst 1, 1) := by decide +kernel
theorem dL_about_14 : decode cL_about 14 = .ok (.ireturn, 1) := by decide +kernel
theorem dL_about_15 : decode cL_about 15 = .ok (.iconst 0, 1) := by decide +kernel
theorem dL_about_16 : decode cL_about 16 = .ok (.ireturn, 1) := by decide +kernel
theorem dL_node_0 : decode cL_node 0 = .ok (.aload_n 3, 1) := by decide +kernel
theorem dL_node_1 : decode cL_node 1 = .ok (.iconst 0, 1) := by decide +kernel
theorem dL_node_2 : decode cL_node 2 = .ok (.aload_n 0, 1) := by decide +kernel
theorem dL_node_3 : decode cL_node 3 = .ok (.iload_n 1, 1) := by decide +kernel
theorem dL_node_4 : decode cL_node 4 = .ok (.iload_n 2, 1) := by decide +kernel
theorem dL_node_5 : decode cL_node 5 = .ok (.invokevirtual 24, 3) := by decide +kernel
theorem dL_node_8 : decode cL_node 8 = .ok (.i2l, 1) := by decide +kernel
theorem dL_node_9 : decode cL_node 9 = .ok (.lastore, 1) := by decide +kernel
theorem dL_node_10 : decode cL_node 10 = .ok (.goto 11, 3) := by decide +kernel
theorem dL_node_13 : decode cL_node 13 = .ok (.astore 4, 2) := by decide +kernel
theorem dL_node_15 : decode cL_node 15 = .ok (.iconst 1, 1) := by decide +kernel
theorem dL_node_16 : decode cL_node 16 = .ok (.ireturn, 1) := by decide +kernel
theorem dL_node_17 : decode cL_node 17 = .ok (.astore 4, 2) := by decide +kernel
theorem dL_node_19 : decode cL_node 19 = .ok (.iconst 2, 1) := by decide +kernel
theorem dL_node_20 : decode cL_node 20 = .ok (.ireturn, 1) := by decide +kernel
theorem dL_node_21 : decode cL_node 21 = .ok (.iconst 0, 1) := by decide +kernel
theorem dL_node_22 : decode cL_node 22 = .ok (.ireturn, 1) := by decide +kernel
theorem dL_version_0 : decode cL_version 0 = .ok (.aload 4, 2) := by decide +kernel
theorem dL_version_2 : decode cL_version 2 = .ok (.iconst 0, 1) := by decide +kernel
theorem dL_version_3 : decode cL_version 3 = .ok (.aload_n 0, 1) := by decide +kernel
theorem dL_version_4 : decode cL_version 4 = .ok (.iload_n 1, 1) := by decide +kernel
theorem dL_version_5 : decode cL_version 5 = .ok (.iload_n 2, 1) := by decide +kernel
theorem dL_version_6 : decode cL_version 6 = .ok (.iload_n 3, 1) := by decide +kernel
theorem dL_version_7 : decode cL_version 7 = .ok (.invokevirtual 30, 3) := by decide +kernel
theorem dL_version_10 : decode cL_version 10 = .ok (.i2l, 1) := by decide +kernel
theorem dL_version_11 : decode cL_version 11 = .ok (.lastore, 1) := by decide +kernel
theorem dL_version_12 : decode cL_version 12 = .ok (.goto 7, 3) := by decide +kernel
theorem dL_version_15 : decode cL_version 15 = .ok (.astore 5, 2) := by decide +kernel
theorem dL_version_17 : decode cL_version 17 = .ok (.iconst 1, 1) := by decide +kernel
theorem dL_version_18 : decode cL_version 18 = .ok (.ireturn, 1) := by decide +kernel
theorem dL_version_19 : decode cL_version 19 = .ok (.iconst 0, 1) := by decide +kernel
theorem dL_version_20 : decode cL_version 20 = .ok (.ireturn, 1) := by decide +kernel
theorem dL_rule_0 : decode cL_rule 0 = .ok (.aload_n 3, 1) := by decide +kernel
theorem dL_rule_1 : decode cL_rule 1 = .ok (.iconst 0, 1) := by decide +kernel
theorem dL_rule_2 : decode cL_rule 2 = .ok (.aload_n 0, 1) := by decide +kernel
theorem dL_rule_3 : decode cL_rule 3 = .ok (.iload_n 1, 1) := by decide +kernel
theorem dL_rule_4 : decode cL_rule 4 = .ok (.iload_n 2, 1) := by decide +kernel
theorem dL_rule_5 : decode cL_rule 5 = .ok (.invokevirtual 34, 3) := by decide +kernel
theorem dL_rule_8 : decode cL_rule 8 = .ok (.i2l, 1) := by decide +kernel
theorem dL_rule_9 : decode cL_rule 9 = .ok (.lastore, 1) := by decide +kernel
theorem dL_rule_10 : decode cL_rule 10 = .ok (.goto 11, 3) := by decide +kernel
theorem dL_rule_13 : decode cL_rule 13 = .ok (.astore 4, 2) := by decide +kernel
theorem dL_rule_15 : decode cL_rule 15 = .ok (.iconst 1, 1) := by decide +kernel
theorem dL_rule_16 : decode cL_rule 16 = .ok (.ireturn, 1) := by decide +kernel
theorem dL_rule_17 : decode cL_rule 17 = .ok (.astore 4, 2) := by decide +kernel
theorem dL_rule_19 : decode cL_rule 19 = .ok (.iconst 2, 1) := by decide +kernel
theorem dL_rule_20 : decode cL_rule 20 = .ok (.ireturn, 1) := by decide +kernel
theorem dL_rule_21 : decode cL_rule 21 = .ok (.iconst 0, 1) := by decide +kernel
theorem dL_rule_22 : decode cL_rule 22 = .ok (.ireturn, 1) := by decide +kernel
theorem dL_approvals_0 : decode cL_approvals 0 = .ok (.aload_n 3, 1) := by decide +kernel
theorem dL_approvals_1 : decode cL_approvals 1 = .ok (.iconst 0, 1) := by decide +kernel
theorem dL_approvals_2 : decode cL_approvals 2 = .ok (.aload_n 0, 1) := by decide +kernel
theorem dL_approvals_3 : decode cL_approvals 3 = .ok (.iload_n 1, 1) := by decide +kernel
theorem dL_approvals_4 : decode cL_approvals 4 = .ok (.iload_n 2, 1) := by decide +kernel
theorem dL_approvals_5 : decode cL_approvals 5 = .ok (.invokevirtual 37, 3) := by decide +kernel
theorem dL_approvals_8 : decode cL_approvals 8 = .ok (.i2l, 1) := by decide +kernel
theorem dL_approvals_9 : decode cL_approvals 9 = .ok (.lastore, 1) := by decide +kernel
theorem dL_approvals_10 : decode cL_approvals 10 = .ok (.goto 11, 3) := by decide +kernel
theorem dL_approvals_13 : decode cL_approvals 13 = .ok (.astore 4, 2) := by decide +kernel
theorem dL_approvals_15 : decode cL_approvals 15 = .ok (.iconst 1, 1) := by decide +kernel
theorem dL_approvals_16 : decode cL_approvals 16 = .ok (.ireturn, 1) := by decide +kernel
theorem dL_approvals_17 : decode cL_approvals 17 = .ok (.astore 4, 2) := by decide +kernel
theorem dL_approvals_19 : decode cL_approvals 19 = .ok (.iconst 2, 1) := by decide +kernel
theorem dL_approvals_20 : decode cL_approvals 20 = .ok (.ireturn, 1) := by decide +kernel
theorem dL_approvals_21 : decode cL_approvals 21 = .ok (.iconst 0, 1) := by decide +kernel
theorem dL_approvals_22 : decode cL_approvals 22 = .ok (.ireturn, 1) := by decide +kernel
theorem dL_quorum_0 : decode cL_quorum 0 = .ok (.aload_n 2, 1) := by decide +kernel
theorem dL_quorum_1 : decode cL_quorum 1 = .ok (.iconst 0, 1) := by decide +kernel
theorem dL_quorum_2 : decode cL_quorum 2 = .ok (.aload_n 0, 1) := by decide +kernel
theorem dL_quorum_3 : decode cL_quorum 3 = .ok (.iload_n 1, 1) := by decide +kernel
theorem dL_quorum_4 : decode cL_quorum 4 = .ok (.invokevirtual 40, 3) := by decide +kernel
theorem dL_quorum_7 : decode cL_quorum 7 = .ok (.i2l, 1) := by decide +kernel
theorem dL_quorum_8 : decode cL_quorum 8 = .ok (.lastore, 1) := by decide +kernel
theorem dL_quorum_9 : decode cL_quorum 9 = .ok (.goto 6, 3) := by decide +kernel
theorem dL_quorum_12 : decode cL_quorum 12 = .ok (.astore_n 3, 1) := by decide +kernel
theorem dL_quorum_13 : decode cL_quorum 13 = .ok (.iconst 1, 1) := by decide +kernel
theorem dL_quorum_14 : decode cL_quorum 14 = .ok (.ireturn, 1) := by decide +kernel
theorem dL_quorum_15 : decode cL_quorum 15 = .ok (.iconst 0, 1) := by decide +kernel
theorem dL_quorum_16 : decode cL_quorum 16 = .ok (.ireturn, 1) := by decide +kernel
theorem dL_wish_0 : decode cL_wish 0 = .ok (.aload 4, 2) := by decide +kernel
theorem dL_wish_2 : decode cL_wish 2 = .ok (.iconst 0, 1) := by decide +kernel
theorem dL_wish_3 : decode cL_wish 3 = .ok (.aload_n 0, 1) := by decide +kernel
theorem dL_wish_4 : decode cL_wish 4 = .ok (.iload_n 1, 1) := by decide +kernel
theorem dL_wish_5 : decode cL_wish 5 = .ok (.iload_n 2, 1) := by decide +kernel
theorem dL_wish_6 : decode cL_wish 6 = .ok (.iload_n 3, 1) := by decide +kernel
theorem dL_wish_7 : decode cL_wish 7 = .ok (.invokevirtual 43, 3) := by decide +kernel
theorem dL_wish_10 : decode cL_wish 10 = .ok (.i2l, 1) := by decide +kernel
theorem dL_wish_11 : decode cL_wish 11 = .ok (.lastore, 1) := by decide +kernel
theorem dL_wish_12 : decode cL_wish 12 = .ok (.goto 11, 3) := by decide +kernel
theorem dL_wish_15 : decode cL_wish 15 = .ok (.astore 5, 2) := by decide +kernel
theorem dL_wish_17 : decode cL_wish 17 = .ok (.iconst 1, 1) := by decide +kernel
theorem dL_wish_18 : decode cL_wish 18 = .ok (.ireturn, 1) := by decide +kernel
theorem dL_wish_19 : decode cL_wish 19 = .ok (.astore 5, 2) := by decide +kernel
theorem dL_wish_21 : decode cL_wish 21 = .ok (.iconst 2, 1) := by decide +kernel
theorem dL_wish_22 : decode cL_wish 22 = .ok (.ireturn, 1) := by decide +kernel
theorem dL_wish_23 : decode cL_wish 23 = .ok (.iconst 0, 1) := by decide +kernel
theorem dL_wish_24 : decode cL_wish 24 = .ok (.ireturn, 1) := by decide +kernel
theorem dL_wishRing_0 : decode cL_wishRing 0 = .ok (.aload 4, 2) := by decide +kernel
theorem dL_wishRing_2 : decode cL_wishRing 2 = .ok (.iconst 0, 1) := by decide +kernel
theorem dL_wishRing_3 : decode cL_wishRing 3 = .ok (.aload_n 0, 1) := by decide +kernel
theorem dL_wishRing_4 : decode cL_wishRing 4 = .ok (.iload_n 1, 1) := by decide +kernel
theorem dL_wishRing_5 : decode cL_wishRing 5 = .ok (.iload_n 2, 1) := by decide +kernel
theorem dL_wishRing_6 : decode cL_wishRing 6 = .ok (.iload_n 3, 1) := by decide +kernel
theorem dL_wishRing_7 : decode cL_wishRing 7 = .ok (.invokevirtual 47, 3) := by decide +kernel
theorem dL_wishRing_10 : decode cL_wishRing 10 = .ok (.i2l, 1) := by decide +kernel
theorem dL_wishRing_11 : decode cL_wishRing 11 = .ok (.lastore, 1) := by decide +kernel
theorem dL_wishRing_12 : decode cL_wishRing 12 = .ok (.goto 11, 3) := by decide +kernel
theorem dL_wishRing_15 : decode cL_wishRing 15 = .ok (.astore 5, 2) := by decide +kernel
theorem dL_wishRing_17 : decode cL_wishRing 17 = .ok (.iconst 1, 1) := by decide +kernel
theorem dL_wishRing_18 : decode cL_wishRing 18 = .ok (.ireturn, 1) := by decide +kernel
theorem dL_wishRing_19 : decode cL_wishRing 19 = .ok (.astore 5, 2) := by decide +kernel
theorem dL_wishRing_21 : decode cL_wishRing 21 = .ok (.iconst 2, 1) := by decide +kernel
theorem dL_wishRing_22 : decode cL_wishRing 22 = .ok (.ireturn, 1) := by decide +kernel
theorem dL_wishRing_23 : decode cL_wishRing 23 = .ok (.iconst 0, 1) := by decide +kernel
theorem dL_wishRing_24 : decode cL_wishRing 24 = .ok (.ireturn, 1) := by decide +kernel
theorem dL_drift_0 : decode cL_drift 0 = .ok (.aload 4, 2) := by decide +kernel
theorem dL_drift_2 : decode cL_drift 2 = .ok (.iconst 0, 1) := by decide +kernel
theorem dL_drift_3 : decode cL_drift 3 = .ok (.aload_n 0, 1) := by decide +kernel
theorem dL_drift_4 : decode cL_drift 4 = .ok (.iload_n 1, 1) := by decide +kernel
theorem dL_drift_5 : decode cL_drift 5 = .ok (.iload_n 2, 1) := by decide +kernel
theorem dL_drift_6 : decode cL_drift 6 = .ok (.iload_n 3, 1) := by decide +kernel
theorem dL_drift_7 : decode cL_drift 7 = .ok (.invokevirtual 50, 3) := by decide +kernel
theorem dL_drift_10 : decode cL_drift 10 = .ok (.i2l, 1) := by decide +kernel
theorem dL_drift_11 : decode cL_drift 11 = .ok (.lastore, 1) := by decide +kernel
theorem dL_drift_12 : decode cL_drift 12 = .ok (.goto 11, 3) := by decide +kernel
theorem dL_drift_15 : decode cL_drift 15 = .ok (.astore 5, 2) := by decide +kernel
theorem dL_drift_17 : decode cL_drift 17 = .ok (.iconst 1, 1) := by decide +kernel
theorem dL_drift_18 : decode cL_drift 18 = .ok (.ireturn, 1) := by decide +kernel
theorem dL_drift_19 : decode cL_drift 19 = .ok (.astore 5, 2) := by decide +kernel
theorem dL_drift_21 : decode cL_drift 21 = .ok (.iconst 2, 1) := by decide +kernel
theorem dL_drift_22 : decode cL_drift 22 = .ok (.ireturn, 1) := by decide +kernel
theorem dL_drift_23 : decode cL_drift 23 = .ok (.iconst 0, 1) := by decide +kernel
theorem dL_drift_24 : decode cL_drift 24 = .ok (.ireturn, 1) := by decide +kernel
theorem dL_approve_0 : decode cL_approve 0 = .ok (.aload 4, 2) := by decide +kernel
theorem dL_approve_2 : decode cL_approve 2 = .ok (.iconst 0, 1) := by decide +kernel
theorem dL_approve_3 : decode cL_approve 3 = .ok (.aload_n 0, 1) := by decide +kernel
theorem dL_approve_4 : decode cL_approve 4 = .ok (.iload_n 1, 1) := by decide +kernel
theorem dL_approve_5 : decode cL_approve 5 = .ok (.iload_n 2, 1) := by decide +kernel
theorem dL_approve_6 : decode cL_approve 6 = .ok (.iload_n 3, 1) := by decide +kernel
theorem dL_approve_7 : decode cL_approve 7 = .ok (.invokevirtual 53, 3) := by decide +kernel
theorem dL_approve_10 : decode cL_approve 10 = .ok (.i2l, 1) := by decide +kernel
theorem dL_approve_11 : decode cL_approve 11 = .ok (.lastore, 1) := by decide +kernel
theorem dL_approve_12 : decode cL_approve 12 = .ok (.goto 15, 3) := by decide +kernel
theorem dL_approve_15 : decode cL_approve 15 = .ok (.astore 5, 2) := by decide +kernel
theorem dL_approve_17 : decode cL_approve 17 = .ok (.iconst 1, 1) := by decide +kernel
theorem dL_approve_18 : decode cL_approve 18 = .ok (.ireturn, 1) := by decide +kernel
theorem dL_approve_19 : decode cL_approve 19 = .ok (.astore 5, 2) := by decide +kernel
theorem dL_approve_21 : decode cL_approve 21 = .ok (.iconst 2, 1) := by decide +kernel
theorem dL_approve_22 : decode cL_approve 22 = .ok (.ireturn, 1) := by decide +kernel
theorem dL_approve_23 : decode cL_approve 23 = .ok (.astore 5, 2) := by decide +kernel
theorem dL_approve_25 : decode cL_approve 25 = .ok (.iconst 3, 1) := by decide +kernel
theorem dL_approve_26 : decode cL_approve 26 = .ok (.ireturn, 1) := by decide +kernel
theorem dL_approve_27 : decode cL_approve 27 = .ok (.iconst 0, 1) := by decide +kernel
theorem dL_approve_28 : decode cL_approve 28 = .ok (.ireturn, 1) := by decide +kernel
theorem dL_dismiss_0 : decode cL_dismiss 0 = .ok (.aload_n 2, 1) := by decide +kernel
theorem dL_dismiss_1 : decode cL_dismiss 1 = .ok (.iconst 0, 1) := by decide +kernel
theorem dL_dismiss_2 : decode cL_dismiss 2 = .ok (.aload_n 0, 1) := by decide +kernel
theorem dL_dismiss_3 : decode cL_dismiss 3 = .ok (.iload_n 1, 1) := by decide +kernel
theorem dL_dismiss_4 : decode cL_dismiss 4 = .ok (.invokevirtual 56, 3) := by decide +kernel
theorem dL_dismiss_7 : decode cL_dismiss 7 = .ok (.i2l, 1) := by decide +kernel
theorem dL_dismiss_8 : decode cL_dismiss 8 = .ok (.lastore, 1) := by decide +kernel
theorem dL_dismiss_9 : decode cL_dismiss 9 = .ok (.goto 6, 3) := by decide +kernel
theorem dL_dismiss_12 : decode cL_dismiss 12 = .ok (.astore_n 3, 1) := by decide +kernel
theorem dL_dismiss_13 : decode cL_dismiss 13 = .ok (.iconst 1, 1) := by decide +kernel
theorem dL_dismiss_14 : decode cL_dismiss 14 = .ok (.ireturn, 1) := by decide +kernel
theorem dL_dismiss_15 : decode cL_dismiss 15 = .ok (.iconst 0, 1) := by decide +kernel
theorem dL_dismiss_16 : decode cL_dismiss 16 = .ok (.ireturn, 1) := by decide +kernel
theorem dL_setQuorum_0 : decode cL_setQuorum 0 = .ok (.aload_n 3, 1) := by decide +kernel
theorem dL_setQuorum_1 : decode cL_setQuorum 1 = .ok (.iconst 0, 1) := by decide +kernel
theorem dL_setQuorum_2 : decode cL_setQuorum 2 = .ok (.aload_n 0, 1) := by decide +kernel
theorem dL_setQuorum_3 : decode cL_setQuorum 3 = .ok (.iload_n 1, 1) := by decide +kernel
theorem dL_setQuorum_4 : decode cL_setQuorum 4 = .ok (.iload_n 2, 1) := by decide +kernel
theorem dL_setQuorum_5 : decode cL_setQuorum 5 = .ok (.invokevirtual 59, 3) := by decide +kernel
theorem dL_setQuorum_8 : decode cL_setQuorum 8 = .ok (.i2l, 1) := by decide +kernel
theorem dL_setQuorum_9 : decode cL_setQuorum 9 = .ok (.lastore, 1) := by decide +kernel
theorem dL_setQuorum_10 : decode cL_setQuorum 10 = .ok (.goto 11, 3) := by decide +kernel
theorem dL_setQuorum_13 : decode cL_setQuorum 13 = .ok (.astore 4, 2) := by decide +kernel
theorem dL_setQuorum_15 : decode cL_setQuorum 15 = .ok (.iconst 1, 1) := by decide +kernel
theorem dL_setQuorum_16 : decode cL_setQuorum 16 = .ok (.ireturn, 1) := by decide +kernel
theorem dL_setQuorum_17 : decode cL_setQuorum 17 = .ok (.astore 4, 2) := by decide +kernel
theorem dL_setQuorum_19 : decode cL_setQuorum 19 = .ok (.iconst 2, 1) := by decide +kernel
theorem dL_setQuorum_20 : decode cL_setQuorum 20 = .ok (.ireturn, 1) := by decide +kernel
theorem dL_setQuorum_21 : decode cL_setQuorum 21 = .ok (.iconst 0, 1) := by decide +kernel
theorem dL_setQuorum_22 : decode cL_setQuorum 22 = .ok (.ireturn, 1) := by decide +kernel
theorem dL_setFaults_0 : decode cL_setFaults 0 = .ok (.aload_n 3, 1) := by decide +kernel
theorem dL_setFaults_1 : decode cL_setFaults 1 = .ok (.iconst 0, 1) := by decide +kernel
theorem dL_setFaults_2 : decode cL_setFaults 2 = .ok (.aload_n 0, 1) := by decide +kernel
theorem dL_setFaults_3 : decode cL_setFaults 3 = .ok (.iload_n 1, 1) := by decide +kernel
theorem dL_setFaults_4 : decode cL_setFaults 4 = .ok (.iload_n 2, 1) := by decide +kernel
theorem dL_setFaults_5 : decode cL_setFaults 5 = .ok (.invokevirtual 62, 3) := by decide +kernel
theorem dL_setFaults_8 : decode cL_setFaults 8 = .ok (.i2l, 1) := by decide +kernel
theorem dL_setFaults_9 : decode cL_setFaults 9 = .ok (.lastore, 1) := by decide +kernel
theorem dL_setFaults_10 : decode cL_setFaults 10 = .ok (.goto 11, 3) := by decide +kernel
theorem dL_setFaults_13 : decode cL_setFaults 13 = .ok (.astore 4, 2) := by decide +kernel
theorem dL_setFaults_15 : decode cL_setFaults 15 = .ok (.iconst 1, 1) := by decide +kernel
theorem dL_setFaults_16 : decode cL_setFaults 16 = .ok (.ireturn, 1) := by decide +kernel
theorem dL_setFaults_17 : decode cL_setFaults 17 = .ok (.astore 4, 2) := by decide +kernel
theorem dL_setFaults_19 : decode cL_setFaults 19 = .ok (.iconst 2, 1) := by decide +kernel
theorem dL_setFaults_20 : decode cL_setFaults 20 = .ok (.ireturn, 1) := by decide +kernel
theorem dL_setFaults_21 : decode cL_setFaults 21 = .ok (.iconst 0, 1) := by decide +kernel
theorem dL_setFaults_22 : decode cL_setFaults 22 = .ok (.ireturn, 1) := by decide +kernel
theorem dL_pardon_0 : decode cL_pardon 0 = .ok (.aload_n 2, 1) := by decide +kernel
theorem dL_pardon_1 : decode cL_pardon 1 = .ok (.iconst 0, 1) := by decide +kernel
theorem dL_pardon_2 : decode cL_pardon 2 = .ok (.aload_n 0, 1) := by decide +kernel
theorem dL_pardon_3 : decode cL_pardon 3 = .ok (.iload_n 1, 1) := by decide +kernel
theorem dL_pardon_4 : decode cL_pardon 4 = .ok (.invokevirtual 65, 3) := by decide +kernel
theorem dL_pardon_7 : decode cL_pardon 7 = .ok (.i2l, 1) := by decide +kernel
theorem dL_pardon_8 : decode cL_pardon 8 = .ok (.lastore, 1) := by decide +kernel
theorem dL_pardon_9 : decode cL_pardon 9 = .ok (.goto 9, 3) := by decide +kernel
theorem dL_pardon_12 : decode cL_pardon 12 = .ok (.astore_n 3, 1) := by decide +kernel
theorem dL_pardon_13 : decode cL_pardon 13 = .ok (.iconst 1, 1) := by decide +kernel
theorem dL_pardon_14 : decode cL_pardon 14 = .ok (.ireturn, 1) := by decide +kernel
theorem dL_pardon_15 : decode cL_pardon 15 = .ok (.astore_n 3, 1) := by decide +kernel
theorem dL_pardon_16 : decode cL_pardon 16 = .ok (.iconst 2, 1) := by decide +kernel
theorem dL_pardon_17 : decode cL_pardon 17 = .ok (.ireturn, 1) := by decide +kernel
theorem dL_pardon_18 : decode cL_pardon 18 = .ok (.iconst 0, 1) := by decide +kernel
theorem dL_pardon_19 : decode cL_pardon 19 = .ok (.ireturn, 1) := by decide +kernel
theorem dL_tick_0 : decode cL_tick 0 = .ok (.aload_n 2, 1) := by decide +kernel
theorem dL_tick_1 : decode cL_tick 1 = .ok (.iconst 0, 1) := by decide +kernel
theorem dL_tick_2 : decode cL_tick 2 = .ok (.aload_n 0, 1) := by decide +kernel
theorem dL_tick_3 : decode cL_tick 3 = .ok (.iload_n 1, 1) := by decide +kernel
theorem dL_tick_4 : decode cL_tick 4 = .ok (.invokevirtual 68, 3) := by decide +kernel
theorem dL_tick_7 : decode cL_tick 7 = .ok (.i2l, 1) := by decide +kernel
theorem dL_tick_8 : decode cL_tick 8 = .ok (.lastore, 1) := by decide +kernel
theorem dL_tick_9 : decode cL_tick 9 = .ok (.goto 6, 3) := by decide +kernel
theorem dL_tick_12 : decode cL_tick 12 = .ok (.astore_n 3, 1) := by decide +kernel
theorem dL_tick_13 : decode cL_tick 13 = .ok (.iconst 1, 1) := by decide +kernel
theorem dL_tick_14 : decode cL_tick 14 = .ok (.ireturn, 1) := by decide +kernel
theorem dL_tick_15 : decode cL_tick 15 = .ok (.iconst 0, 1) := by decide +kernel
theorem dL_tick_16 : decode cL_tick 16 = .ok (.ireturn, 1) := by decide +kernel
theorem dL_undo_0 : decode cL_undo 0 = .ok (.aload_n 1, 1) := by decide +kernel
theorem dL_undo_1 : decode cL_undo 1 = .ok (.iconst 0, 1) := by decide +kernel
theorem dL_undo_2 : decode cL_undo 2 = .ok (.aload_n 0, 1) := by decide +kernel
theorem dL_undo_3 : decode cL_undo 3 = .ok (.invokevirtual 71, 3) := by decide +kernel
theorem dL_undo_6 : decode cL_undo 6 = .ok (.i2l, 1) := by decide +kernel
theorem dL_undo_7 : decode cL_undo 7 = .ok (.lastore, 1) := by decide +kernel
theorem dL_undo_8 : decode cL_undo 8 = .ok (.goto 6, 3) := by decide +kernel
theorem dL_undo_11 : decode cL_undo 11 = .ok (.astore_n 2, 1) := by decide +kernel
theorem dL_undo_12 : decode cL_undo 12 = .ok (.iconst 1, 1) := by decide +kernel
theorem dL_undo_13 : decode cL_undo 13 = .ok (.ireturn, 1) := by decide +kernel
theorem dL_undo_14 : decode cL_undo 14 = .ok (.iconst 0, 1) := by decide +kernel
theorem dL_undo_15 : decode cL_undo 15 = .ok (.ireturn, 1) := by decide +kernel
theorem dL_state_0 : decode cL_state 0 = .ok (.aload_n 3, 1) := by decide +kernel
theorem dL_state_1 : decode cL_state 1 = .ok (.iconst 0, 1) := by decide +kernel
theorem dL_state_2 : decode cL_state 2 = .ok (.aload_n 0, 1) := by decide +kernel
theorem dL_state_3 : decode cL_state 3 = .ok (.iload_n 1, 1) := by decide +kernel
theorem dL_state_4 : decode cL_state 4 = .ok (.iload_n 2, 1) := by decide +kernel
theorem dL_state_5 : decode cL_state 5 = .ok (.invokevirtual 74, 3) := by decide +kernel
theorem dL_state_8 : decode cL_state 8 = .ok (.i2l, 1) := by decide +kernel
theorem dL_state_9 : decode cL_state 9 = .ok (.lastore, 1) := by decide +kernel
theorem dL_state_10 : decode cL_state 10 = .ok (.goto 7, 3) := by decide +kernel
theorem dL_state_13 : decode cL_state 13 = .ok (.astore 4, 2) := by decide +kernel
theorem dL_state_15 : decode cL_state 15 = .ok (.iconst 1, 1) := by decide +kernel
theorem dL_state_16 : decode cL_state 16 = .ok (.ireturn, 1) := by decide +kernel
theorem dL_state_17 : decode cL_state 17 = .ok (.iconst 0, 1) := by decide +kernel
theorem dL_state_18 : decode cL_state 18 = .ok (.ireturn, 1) := by decide +kernel
theorem dL_next_0 : decode cL_next 0 = .ok (.aload_n 2, 1) := by decide +kernel
theorem dL_next_1 : decode cL_next 1 = .ok (.iconst 0, 1) := by decide +kernel
theorem dL_next_2 : decode cL_next 2 = .ok (.aload_n 0, 1) := by decide +kernel
theorem dL_next_3 : decode cL_next 3 = .ok (.iload_n 1, 1) := by decide +kernel
theorem dL_next_4 : decode cL_next 4 = .ok (.invokevirtual 77, 3) := by decide +kernel
theorem dL_next_7 : decode cL_next 7 = .ok (.i2l, 1) := by decide +kernel
theorem dL_next_8 : decode cL_next 8 = .ok (.lastore, 1) := by decide +kernel
theorem dL_next_9 : decode cL_next 9 = .ok (.goto 6, 3) := by decide +kernel
theorem dL_next_12 : decode cL_next 12 = .ok (.astore_n 3, 1) := by decide +kernel
theorem dL_next_13 : decode cL_next 13 = .ok (.iconst 1, 1) := by decide +kernel
theorem dL_next_14 : decode cL_next 14 = .ok (.ireturn, 1) := by decide +kernel
theorem dL_next_15 : decode cL_next 15 = .ok (.iconst 0, 1) := by decide +kernel
theorem dL_next_16 : decode cL_next 16 = .ok (.ireturn, 1) := by decide +kernel
theorem dL_breaks_0 : decode cL_breaks 0 = .ok (.aload 4, 2) := by decide +kernel
theorem dL_breaks_2 : decode cL_breaks 2 = .ok (.iconst 0, 1) := by decide +kernel
theorem dL_breaks_3 : decode cL_breaks 3 = .ok (.aload_n 0, 1) := by decide +kernel
theorem dL_breaks_4 : decode cL_breaks 4 = .ok (.iload_n 1, 1) := by decide +kernel
theorem dL_breaks_5 : decode cL_breaks 5 = .ok (.iload_n 2, 1) := by decide +kernel
theorem dL_breaks_6 : decode cL_breaks 6 = .ok (.iload_n 3, 1) := by decide +kernel
theorem dL_breaks_7 : decode cL_breaks 7 = .ok (.invokevirtual 80, 3) := by decide +kernel
theorem dL_breaks_10 : decode cL_breaks 10 = .ok (.i2l, 1) := by decide +kernel
theorem dL_breaks_11 : decode cL_breaks 11 = .ok (.lastore, 1) := by decide +kernel
theorem dL_breaks_12 : decode cL_breaks 12 = .ok (.goto 11, 3) := by decide +kernel
theorem dL_breaks_15 : decode cL_breaks 15 = .ok (.astore 5, 2) := by decide +kernel
theorem dL_breaks_17 : decode cL_breaks 17 = .ok (.iconst 1, 1) := by decide +kernel
theorem dL_breaks_18 : decode cL_breaks 18 = .ok (.ireturn, 1) := by decide +kernel
theorem dL_breaks_19 : decode cL_breaks 19 = .ok (.astore 5, 2) := by decide +kernel
theorem dL_breaks_21 : decode cL_breaks 21 = .ok (.iconst 2, 1) := by decide +kernel
theorem dL_breaks_22 : decode cL_breaks 22 = .ok (.ireturn, 1) := by decide +kernel
theorem dL_breaks_23 : decode cL_breaks 23 = .ok (.iconst 0, 1) := by decide +kernel
theorem dL_breaks_24 : decode cL_breaks 24 = .ok (.ireturn, 1) := by decide +kernel
theorem dL_holdsUp_0 : decode cL_holdsUp 0 = .ok (.aload_n 2, 1) := by decide +kernel
theorem dL_holdsUp_1 : decode cL_holdsUp 1 = .ok (.iconst 0, 1) := by decide +kernel
theorem dL_holdsUp_2 : decode cL_holdsUp 2 = .ok (.aload_n 0, 1) := by decide +kernel
theorem dL_holdsUp_3 : decode cL_holdsUp 3 = .ok (.iload_n 1, 1) := by decide +kernel
theorem dL_holdsUp_4 : decode cL_holdsUp 4 = .ok (.invokevirtual 83, 3) := by decide +kernel
theorem dL_holdsUp_7 : decode cL_holdsUp 7 = .ok (.i2l, 1) := by decide +kernel
theorem dL_holdsUp_8 : decode cL_holdsUp 8 = .ok (.lastore, 1) := by decide +kernel
theorem dL_holdsUp_9 : decode cL_holdsUp 9 = .ok (.goto 6, 3) := by decide +kernel
theorem dL_holdsUp_12 : decode cL_holdsUp 12 = .ok (.astore_n 3, 1) := by decide +kernel
theorem dL_holdsUp_13 : decode cL_holdsUp 13 = .ok (.iconst 1, 1) := by decide +kernel
theorem dL_holdsUp_14 : decode cL_holdsUp 14 = .ok (.ireturn, 1) := by decide +kernel
theorem dL_holdsUp_15 : decode cL_holdsUp 15 = .ok (.iconst 0, 1) := by decide +kernel
theorem dL_holdsUp_16 : decode cL_holdsUp 16 = .ok (.ireturn, 1) := by decide +kernel
theorem dL_missing_0 : decode cL_missing 0 = .ok (.aload_n 2, 1) := by decide +kernel
theorem dL_missing_1 : decode cL_missing 1 = .ok (.iconst 0, 1) := by decide +kernel
theorem dL_missing_2 : decode cL_missing 2 = .ok (.aload_n 0, 1) := by decide +kernel
theorem dL_missing_3 : decode cL_missing 3 = .ok (.iload_n 1, 1) := by decide +kernel
theorem dL_missing_4 : decode cL_missing 4 = .ok (.invokevirtual 86, 3) := by decide +kernel
theorem dL_missing_7 : decode cL_missing 7 = .ok (.i2l, 1) := by decide +kernel
theorem dL_missing_8 : decode cL_missing 8 = .ok (.lastore, 1) := by decide +kernel
theorem dL_missing_9 : decode cL_missing 9 = .ok (.goto 6, 3) := by decide +kernel
theorem dL_missing_12 : decode cL_missing 12 = .ok (.astore_n 3, 1) := by decide +kernel
theorem dL_missing_13 : decode cL_missing 13 = .ok (.iconst 1, 1) := by decide +kernel
theorem dL_missing_14 : decode cL_missing 14 = .ok (.ireturn, 1) := by decide +kernel
theorem dL_missing_15 : decode cL_missing 15 = .ok (.iconst 0, 1) := by decide +kernel
theorem dL_missing_16 : decode cL_missing 16 = .ok (.ireturn, 1) := by decide +kernel
theorem dL_ahead_0 : decode cL_ahead 0 = .ok (.aload 4, 2) := by decide +kernel
theorem dL_ahead_2 : decode cL_ahead 2 = .ok (.iconst 0, 1) := by decide +kernel
theorem dL_ahead_3 : decode cL_ahead 3 = .ok (.aload_n 0, 1) := by decide +kernel
theorem dL_ahead_4 : decode cL_ahead 4 = .ok (.iload_n 1, 1) := by decide +kernel
theorem dL_ahead_5 : decode cL_ahead 5 = .ok (.iload_n 2, 1) := by decide +kernel
theorem dL_ahead_6 : decode cL_ahead 6 = .ok (.iload_n 3, 1) := by decide +kernel
theorem dL_ahead_7 : decode cL_ahead 7 = .ok (.invokevirtual 89, 3) := by decide +kernel
theorem dL_ahead_10 : decode cL_ahead 10 = .ok (.i2l, 1) := by decide +kernel
theorem dL_ahead_11 : decode cL_ahead 11 = .ok (.lastore, 1) := by decide +kernel
theorem dL_ahead_12 : decode cL_ahead 12 = .ok (.goto 11, 3) := by decide +kernel
theorem dL_ahead_15 : decode cL_ahead 15 = .ok (.astore 5, 2) := by decide +kernel
theorem dL_ahead_17 : decode cL_ahead 17 = .ok (.iconst 1, 1) := by decide +kernel
theorem dL_ahead_18 : decode cL_ahead 18 = .ok (.ireturn, 1) := by decide +kernel
theorem dL_ahead_19 : decode cL_ahead 19 = .ok (.astore 5, 2) := by decide +kernel
theorem dL_ahead_21 : decode cL_ahead 21 = .ok (.iconst 2, 1) := by decide +kernel
theorem dL_ahead_22 : decode cL_ahead 22 = .ok (.ireturn, 1) := by decide +kernel
theorem dL_ahead_23 : decode cL_ahead 23 = .ok (.iconst 0, 1) := by decide +kernel
theorem dL_ahead_24 : decode cL_ahead 24 = .ok (.ireturn, 1) := by decide +kernel
theorem dL_fewest_0 : decode cL_fewest 0 = .ok (.aload_n 2, 1) := by decide +kernel
theorem dL_fewest_1 : decode cL_fewest 1 = .ok (.iconst 0, 1) := by decide +kernel
theorem dL_fewest_2 : decode cL_fewest 2 = .ok (.aload_n 0, 1) := by decide +kernel
theorem dL_fewest_3 : decode cL_fewest 3 = .ok (.iload_n 1, 1) := by decide +kernel
theorem dL_fewest_4 : decode cL_fewest 4 = .ok (.invokevirtual 92, 3) := by decide +kernel
theorem dL_fewest_7 : decode cL_fewest 7 = .ok (.i2l, 1) := by decide +kernel
theorem dL_fewest_8 : decode cL_fewest 8 = .ok (.lastore, 1) := by decide +kernel
theorem dL_fewest_9 : decode cL_fewest 9 = .ok (.goto 6, 3) := by decide +kernel
theorem dL_fewest_12 : decode cL_fewest 12 = .ok (.astore_n 3, 1) := by decide +kernel
theorem dL_fewest_13 : decode cL_fewest 13 = .ok (.iconst 1, 1) := by decide +kernel
theorem dL_fewest_14 : decode cL_fewest 14 = .ok (.ireturn, 1) := by decide +kernel
theorem dL_fewest_15 : decode cL_fewest 15 = .ok (.iconst 0, 1) := by decide +kernel
theorem dL_fewest_16 : decode cL_fewest 16 = .ok (.ireturn, 1) := by decide +kernel
theorem dL_step_0 : decode cL_step 0 = .ok (.aload_n 3, 1) := by decide +kernel
theorem dL_step_1 : decode cL_step 1 = .ok (.iconst 0, 1) := by decide +kernel
theorem dL_step_2 : decode cL_step 2 = .ok (.aload_n 0, 1) := by decide +kernel
theorem dL_step_3 : decode cL_step 3 = .ok (.iload_n 1, 1) := by decide +kernel
theorem dL_step_4 : decode cL_step 4 = .ok (.iload_n 2, 1) := by decide +kernel
theorem dL_step_5 : decode cL_step 5 = .ok (.invokevirtual 95, 3) := by decide +kernel
theorem dL_step_8 : decode cL_step 8 = .ok (.i2l, 1) := by decide +kernel
theorem dL_step_9 : decode cL_step 9 = .ok (.lastore, 1) := by decide +kernel
theorem dL_step_10 : decode cL_step 10 = .ok (.goto 11, 3) := by decide +kernel
theorem dL_step_13 : decode cL_step 13 = .ok (.astore 4, 2) := by decide +kernel
theorem dL_step_15 : decode cL_step 15 = .ok (.iconst 1, 1) := by decide +kernel
theorem dL_step_16 : decode cL_step 16 = .ok (.ireturn, 1) := by decide +kernel
theorem dL_step_17 : decode cL_step 17 = .ok (.astore 4, 2) := by decide +kernel
theorem dL_step_19 : decode cL_step 19 = .ok (.iconst 2, 1) := by decide +kernel
theorem dL_step_20 : decode cL_step 20 = .ok (.ireturn, 1) := by decide +kernel
theorem dL_step_21 : decode cL_step 21 = .ok (.iconst 0, 1) := by decide +kernel
theorem dL_step_22 : decode cL_step 22 = .ok (.ireturn, 1) := by decide +kernel
theorem dL_needed_0 : decode cL_needed 0 = .ok (.aload 4, 2) := by decide +kernel
theorem dL_needed_2 : decode cL_needed 2 = .ok (.iconst 0, 1) := by decide +kernel
theorem dL_needed_3 : decode cL_needed 3 = .ok (.aload_n 0, 1) := by decide +kernel
theorem dL_needed_4 : decode cL_needed 4 = .ok (.iload_n 1, 1) := by decide +kernel
theorem dL_needed_5 : decode cL_needed 5 = .ok (.iload_n 2, 1) := by decide +kernel
theorem dL_needed_6 : decode cL_needed 6 = .ok (.iload_n 3, 1) := by decide +kernel
theorem dL_needed_7 : decode cL_needed 7 = .ok (.invokevirtual 98, 3) := by decide +kernel
theorem dL_needed_10 : decode cL_needed 10 = .ok (.i2l, 1) := by decide +kernel
theorem dL_needed_11 : decode cL_needed 11 = .ok (.lastore, 1) := by decide +kernel
theorem dL_needed_12 : decode cL_needed 12 = .ok (.goto 11, 3) := by decide +kernel
theorem dL_needed_15 : decode cL_needed 15 = .ok (.astore 5, 2) := by decide +kernel
theorem dL_needed_17 : decode cL_needed 17 = .ok (.iconst 1, 1) := by decide +kernel
theorem dL_needed_18 : decode cL_needed 18 = .ok (.ireturn, 1) := by decide +kernel
theorem dL_needed_19 : decode cL_needed 19 = .ok (.astore 5, 2) := by decide +kernel
theorem dL_needed_21 : decode cL_needed 21 = .ok (.iconst 2, 1) := by decide +kernel
theorem dL_needed_22 : decode cL_needed 22 = .ok (.ireturn, 1) := by decide +kernel
theorem dL_needed_23 : decode cL_needed 23 = .ok (.iconst 0, 1) := by decide +kernel
theorem dL_needed_24 : decode cL_needed 24 = .ok (.ireturn, 1) := by decide +kernel
theorem dL_isPossible_0 : decode cL_isPossible 0 = .ok (.aload_n 3, 1) := by decide +kernel
theorem dL_isPossible_1 : decode cL_isPossible 1 = .ok (.iconst 0, 1) := by decide +kernel
theorem dL_isPossible_2 : decode cL_isPossible 2 = .ok (.aload_n 0, 1) := by decide +kernel
theorem dL_isPossible_3 : decode cL_isPossible 3 = .ok (.iload_n 1, 1) := by decide +kernel
theorem dL_isPossible_4 : decode cL_isPossible 4 = .ok (.iload_n 2, 1) := by decide +kernel
theorem dL_isPossible_5 : decode cL_isPossible 5 = .ok (.invokevirtual 101, 3) := by decide +kernel
theorem dL_isPossible_8 : decode cL_isPossible 8 = .ok (.ifCond .eq 7, 3) := by decide +kernel
theorem dL_isPossible_11 : decode cL_isPossible 11 = .ok (.lconst 1, 1) := by decide +kernel
theorem dL_isPossible_12 : decode cL_isPossible 12 = .ok (.goto 4, 3) := by decide +kernel
theorem dL_isPossible_15 : decode cL_isPossible 15 = .ok (.lconst 0, 1) := by decide +kernel
theorem dL_isPossible_16 : decode cL_isPossible 16 = .ok (.lastore, 1) := by decide +kernel
theorem dL_isPossible_17 : decode cL_isPossible 17 = .ok (.goto 11, 3) := by decide +kernel
theorem dL_isPossible_20 : decode cL_isPossible 20 = .ok (.astore 4, 2) := by decide +kernel
theorem dL_isPossible_22 : decode cL_isPossible 22 = .ok (.iconst 1, 1) := by decide +kernel
theorem dL_isPossible_23 : decode cL_isPossible 23 = .ok (.ireturn, 1) := by decide +kernel
theorem dL_isPossible_24 : decode cL_isPossible 24 = .ok (.astore 4, 2) := by decide +kernel
theorem dL_isPossible_26 : decode cL_isPossible 26 = .ok (.iconst 2, 1) := by decide +kernel
theorem dL_isPossible_27 : decode cL_isPossible 27 = .ok (.ireturn, 1) := by decide +kernel
theorem dL_isPossible_28 : decode cL_isPossible 28 = .ok (.iconst 0, 1) := by decide +kernel
theorem dL_isPossible_29 : decode cL_isPossible 29 = .ok (.ireturn, 1) := by decide +kernel
theorem dL_explains_0 : decode cL_explains 0 = .ok (.aload_n 3, 1) := by decide +kernel
theorem dL_explains_1 : decode cL_explains 1 = .ok (.iconst 0, 1) := by decide +kernel
theorem dL_explains_2 : decode cL_explains 2 = .ok (.aload_n 0, 1) := by decide +kernel
theorem dL_explains_3 : decode cL_explains 3 = .ok (.iload_n 1, 1) := by decide +kernel
theorem dL_explains_4 : decode cL_explains 4 = .ok (.iload_n 2, 1) := by decide +kernel
theorem dL_explains_5 : decode cL_explains 5 = .ok (.invokevirtual 105, 3) := by decide +kernel
theorem dL_explains_8 : decode cL_explains 8 = .ok (.i2l, 1) := by decide +kernel
theorem dL_explains_9 : decode cL_explains 9 = .ok (.lastore, 1) := by decide +kernel
theorem dL_explains_10 : decode cL_explains 10 = .ok (.goto 11, 3) := by decide +kernel
theorem dL_explains_13 : decode cL_explains 13 = .ok (.astore 4, 2) := by decide +kernel
theorem dL_explains_15 : decode cL_explains 15 = .ok (.iconst 1, 1) := by decide +kernel
theorem dL_explains_16 : decode cL_explains 16 = .ok (.ireturn, 1) := by decide +kernel
theorem dL_explains_17 : decode cL_explains 17 = .ok (.astore 4, 2) := by decide +kernel
theorem dL_explains_19 : decode cL_explains 19 = .ok (.iconst 2, 1) := by decide +kernel
theorem dL_explains_20 : decode cL_explains 20 = .ok (.ireturn, 1) := by decide +kernel
theorem dL_explains_21 : decode cL_explains 21 = .ok (.iconst 0, 1) := by decide +kernel
theorem dL_explains_22 : decode cL_explains 22 = .ok (.ireturn, 1) := by decide +kernel
theorem dL_ranked_0 : decode cL_ranked 0 = .ok (.aload_n 2, 1) := by decide +kernel
theorem dL_ranked_1 : decode cL_ranked 1 = .ok (.iconst 0, 1) := by decide +kernel
theorem dL_ranked_2 : decode cL_ranked 2 = .ok (.aload_n 0, 1) := by decide +kernel
theorem dL_ranked_3 : decode cL_ranked 3 = .ok (.iload_n 1, 1) := by decide +kernel
theorem dL_ranked_4 : decode cL_ranked 4 = .ok (.invokevirtual 108, 3) := by decide +kernel
theorem dL_ranked_7 : decode cL_ranked 7 = .ok (.i2l, 1) := by decide +kernel
theorem dL_ranked_8 : decode cL_ranked 8 = .ok (.lastore, 1) := by decide +kernel
theorem dL_ranked_9 : decode cL_ranked 9 = .ok (.goto 6, 3) := by decide +kernel
theorem dL_ranked_12 : decode cL_ranked 12 = .ok (.astore_n 3, 1) := by decide +kernel
theorem dL_ranked_13 : decode cL_ranked 13 = .ok (.iconst 1, 1) := by decide +kernel
theorem dL_ranked_14 : decode cL_ranked 14 = .ok (.ireturn, 1) := by decide +kernel
theorem dL_ranked_15 : decode cL_ranked 15 = .ok (.iconst 0, 1) := by decide +kernel
theorem dL_ranked_16 : decode cL_ranked 16 = .ok (.ireturn, 1) := by decide +kernel
theorem dL_runScript_0 : decode cL_runScript 0 = .ok (.aload 4, 2) := by decide +kernel
theorem dL_runScript_2 : decode cL_runScript 2 = .ok (.iconst 0, 1) := by decide +kernel
theorem dL_runScript_3 : decode cL_runScript 3 = .ok (.aload_n 0, 1) := by decide +kernel
theorem dL_runScript_4 : decode cL_runScript 4 = .ok (.iload_n 1, 1) := by decide +kernel
theorem dL_runScript_5 : decode cL_runScript 5 = .ok (.lload_n 2, 1) := by decide +kernel
theorem dL_runScript_6 : decode cL_runScript 6 = .ok (.invokevirtual 111, 3) := by decide +kernel
theorem dL_runScript_9 : decode cL_runScript 9 = .ok (.i2l, 1) := by decide +kernel
theorem dL_runScript_10 : decode cL_runScript 10 = .ok (.lastore, 1) := by decide +kernel
theorem dL_runScript_11 : decode cL_runScript 11 = .ok (.goto 7, 3) := by decide +kernel
theorem dL_runScript_14 : decode cL_runScript 14 = .ok (.astore 5, 2) := by decide +kernel
theorem dL_runScript_16 : decode cL_runScript 16 = .ok (.iconst 1, 1) := by decide +kernel
theorem dL_runScript_17 : decode cL_runScript 17 = .ok (.ireturn, 1) := by decide +kernel
theorem dL_runScript_18 : decode cL_runScript 18 = .ok (.iconst 0, 1) := by decide +kernel
theorem dL_runScript_19 : decode cL_runScript 19 = .ok (.ireturn, 1) := by decide +kernel
theorem dL_simulate_0 : decode cL_simulate 0 = .ok (.aload 4, 2) := by decide +kernel
theorem dL_simulate_2 : decode cL_simulate 2 = .ok (.iconst 0, 1) := by decide +kernel
theorem dL_simulate_3 : decode cL_simulate 3 = .ok (.aload_n 0, 1) := by decide +kernel
theorem dL_simulate_4 : decode cL_simulate 4 = .ok (.lload_n 1, 1) := by decide +kernel
theorem dL_simulate_5 : decode cL_simulate 5 = .ok (.iload_n 3, 1) := by decide +kernel
theorem dL_simulate_6 : decode cL_simulate 6 = .ok (.invokevirtual 115, 3) := by decide +kernel
theorem dL_simulate_9 : decode cL_simulate 9 = .ok (.i2l, 1) := by decide +kernel
theorem dL_simulate_10 : decode cL_simulate 10 = .ok (.lastore, 1) := by decide +kernel
theorem dL_simulate_11 : decode cL_simulate 11 = .ok (.goto 7, 3) := by decide +kernel
theorem dL_simulate_14 : decode cL_simulate 14 = .ok (.astore 5, 2) := by decide +kernel
theorem dL_simulate_16 : decode cL_simulate 16 = .ok (.iconst 1, 1) := by decide +kernel
theorem dL_simulate_17 : decode cL_simulate 17 = .ok (.ireturn, 1) := by decide +kernel
theorem dL_simulate_18 : decode cL_simulate 18 = .ok (.iconst 0, 1) := by decide +kernel
theorem dL_simulate_19 : decode cL_simulate 19 = .ok (.ireturn, 1) := by decide +kernel
theorem dL_save_0 : decode cL_save 0 = .ok (.aload_n 2, 1) := by decide +kernel
theorem dL_save_1 : decode cL_save 1 = .ok (.iconst 0, 1) := by decide +kernel
theorem dL_save_2 : decode cL_save 2 = .ok (.aload_n 0, 1) := by decide +kernel
theorem dL_save_3 : decode cL_save 3 = .ok (.iload_n 1, 1) := by decide +kernel
theorem dL_save_4 : decode cL_save 4 = .ok (.invokevirtual 119, 3) := by decide +kernel
theorem dL_save_7 : decode cL_save 7 = .ok (.i2l, 1) := by decide +kernel
theorem dL_save_8 : decode cL_save 8 = .ok (.lastore, 1) := by decide +kernel
theorem dL_save_9 : decode cL_save 9 = .ok (.goto 6, 3) := by decide +kernel
theorem dL_save_12 : decode cL_save 12 = .ok (.astore_n 3, 1) := by decide +kernel
theorem dL_save_13 : decode cL_save 13 = .ok (.iconst 1, 1) := by decide +kernel
theorem dL_save_14 : decode cL_save 14 = .ok (.ireturn, 1) := by decide +kernel
theorem dL_save_15 : decode cL_save 15 = .ok (.iconst 0, 1) := by decide +kernel
theorem dL_save_16 : decode cL_save 16 = .ok (.ireturn, 1) := by decide +kernel
theorem dL_restore_0 : decode cL_restore 0 = .ok (.aload_n 2, 1) := by decide +kernel
theorem dL_restore_1 : decode cL_restore 1 = .ok (.iconst 0, 1) := by decide +kernel
theorem dL_restore_2 : decode cL_restore 2 = .ok (.aload_n 0, 1) := by decide +kernel
theorem dL_restore_3 : decode cL_restore 3 = .ok (.iload_n 1, 1) := by decide +kernel
theorem dL_restore_4 : decode cL_restore 4 = .ok (.invokevirtual 122, 3) := by decide +kernel
theorem dL_restore_7 : decode cL_restore 7 = .ok (.i2l, 1) := by decide +kernel
theorem dL_restore_8 : decode cL_restore 8 = .ok (.lastore, 1) := by decide +kernel
theorem dL_restore_9 : decode cL_restore 9 = .ok (.goto 9, 3) := by decide +kernel
theorem dL_restore_12 : decode cL_restore 12 = .ok (.astore_n 3, 1) := by decide +kernel
theorem dL_restore_13 : decode cL_restore 13 = .ok (.iconst 1, 1) := by decide +kernel
theorem dL_restore_14 : decode cL_restore 14 = .ok (.ireturn, 1) := by decide +kernel
theorem dL_restore_15 : decode cL_restore 15 = .ok (.astore_n 3, 1) := by decide +kernel
theorem dL_restore_16 : decode cL_restore 16 = .ok (.iconst 2, 1) := by decide +kernel
theorem dL_restore_17 : decode cL_restore 17 = .ok (.ireturn, 1) := by decide +kernel
theorem dL_restore_18 : decode cL_restore 18 = .ok (.iconst 0, 1) := by decide +kernel
theorem dL_restore_19 : decode cL_restore 19 = .ok (.ireturn, 1) := by decide +kernel

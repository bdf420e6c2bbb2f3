theorem dX7_processAt_13 : decode cX7_processAt 13 = .ok (.iload_n 1, 1) := by decide +kernel
theorem dX7_processAt_14 : decode cX7_processAt 14 = .ok (.aaload, 1) := by decide +kernel
theorem dX7_processAt_15 : decode cX7_processAt 15 = .ok (.goto 4, 3) := by decide +kernel
theorem dX7_processAt_18 : decode cX7_processAt 18 = .ok (.aconst_null, 1) := by decide +kernel
theorem dX7_processAt_19 : decode cX7_processAt 19 = .ok (.areturn, 1) := by decide +kernel
theorem dX7_thingIn_0 : decode cX7_thingIn 0 = .ok (.iload_n 1, 1) := by decide +kernel
theorem dX7_thingIn_1 : decode cX7_thingIn 1 = .ok (.ifCond .lt 9, 3) := by decide +kernel
theorem dX7_thingIn_4 : decode cX7_thingIn 4 = .ok (.iload_n 1, 1) := by decide +kernel
theorem dX7_thingIn_5 : decode cX7_thingIn 5 = .ok (.aload_n 0, 1) := by decide +kernel
theorem dX7_thingIn_6 : decode cX7_thingIn 6 = .ok (.arraylength, 1) := by decide +kernel
theorem dX7_thingIn_7 : decode cX7_thingIn 7 = .ok (.if_icmp .lt 5, 3) := by decide +kernel
theorem dX7_thingIn_10 : decode cX7_thingIn 10 = .ok (.aconst_null, 1) := by decide +kernel
theorem dX7_thingIn_11 : decode cX7_thingIn 11 = .ok (.areturn, 1) := by decide +kernel
theorem dX7_thingIn_12 : decode cX7_thingIn 12 = .ok (.aload_n 0, 1) := by decide +kernel
theorem dX7_thingIn_13 : decode cX7_thingIn 13 = .ok (.iload_n 1, 1) := by decide +kernel
theorem dX7_thingIn_14 : decode cX7_thingIn 14 = .ok (.aaload, 1) := by decide +kernel
theorem dX7_thingIn_15 : decode cX7_thingIn 15 = .ok (.astore_n 2, 1) := by decide +kernel
theorem dX7_thingIn_16 : decode cX7_thingIn 16 = .ok (.aload_n 2, 1) := by decide +kernel
theorem dX7_thingIn_17 : decode cX7_thingIn 17 = .ok (.ifnull 14, 3) := by decide +kernel
theorem dX7_thingIn_20 : decode cX7_thingIn 20 = .ok (.aload_n 2, 1) := by decide +kernel
theorem dX7_thingIn_21 : decode cX7_thingIn 21 = .ok (.getfield 209, 3) := by decide +kernel
theorem dX7_thingIn_24 : decode cX7_thingIn 24 = .ok (.ifCond .eq 7, 3) := by decide +kernel
theorem dX7_thingIn_27 : decode cX7_thingIn 27 = .ok (.aload_n 2, 1) := by decide +kernel
theorem dX7_thingIn_28 : decode cX7_thingIn 28 = .ok (.goto 4, 3) := by decide +kernel
theorem dX7_thingIn_31 : decode cX7_thingIn 31 = .ok (.aconst_null, 1) := by decide +kernel
theorem dX7_thingIn_32 : decode cX7_thingIn 32 = .ok (.areturn, 1) := by decide +kernel
theorem dX7_thingById_0 : decode cX7_thingById 0 = .ok (.iload_n 1, 1) := by decide +kernel
theorem dX7_thingById_1 : decode cX7_thingById 1 = .ok (.ifCond .ge 7, 3) := by decide +kernel
theorem dX7_thingById_4 : decode cX7_thingById 4 = .ok (.aconst_null, 1) := by decide +kernel
theorem dX7_thingById_5 : decode cX7_thingById 5 = .ok (.goto 11, 3) := by decide +kernel
theorem dX7_thingById_8 : decode cX7_thingById 8 = .ok (.aload_n 0, 1) := by decide +kernel
theorem dX7_thingById_9 : decode cX7_thingById 9 = .ok (.iload_n 1, 1) := by decide +kernel
theorem dX7_thingById_10 : decode cX7_thingById 10 = .ok (.bipush 12, 2) := by decide +kernel
theorem dX7_thingById_12 : decode cX7_thingById 12 = .ok (.irem, 1) := by decide +kernel
theorem dX7_thingById_13 : decode cX7_thingById 13 = .ok (.invokestatic 212, 3) := by decide +kernel
theorem dX7_thingById_16 : decode cX7_thingById 16 = .ok (.astore_n 2, 1) := by decide +kernel
theorem dX7_thingById_17 : decode cX7_thingById 17 = .ok (.aload_n 2, 1) := by decide +kernel
theorem dX7_thingById_18 : decode cX7_thingById 18 = .ok (.ifnull 15, 3) := by decide +kernel
theorem dX7_thingById_21 : decode cX7_thingById 21 = .ok (.aload_n 2, 1) := by decide +kernel
theorem dX7_thingById_22 : decode cX7_thingById 22 = .ok (.getfield 216, 3) := by decide +kernel
theorem dX7_thingById_25 : decode cX7_thingById 25 = .ok (.iload_n 1, 1) := by decide +kernel
theorem dX7_thingById_26 : decode cX7_thingById 26 = .ok (.if_icmp .ne 7, 3) := by decide +kernel
theorem dX7_thingById_29 : decode cX7_thingById 29 = .ok (.aload_n 2, 1) := by decide +kernel
theorem dX7_thingById_30 : decode cX7_thingById 30 = .ok (.goto 4, 3) := by decide +kernel
theorem dX7_thingById_33 : decode cX7_thingById 33 = .ok (.aconst_null, 1) := by decide +kernel
theorem dX7_thingById_34 : decode cX7_thingById 34 = .ok (.areturn, 1) := by decide +kernel
theorem dX7_thingByKey_0 : decode cX7_thingByKey 0 = .ok (.iconst 0, 1) := by decide +kernel
theorem dX7_thingByKey_1 : decode cX7_thingByKey 1 = .ok (.istore_n 2, 1) := by decide +kernel
theorem dX7_thingByKey_2 : decode cX7_thingByKey 2 = .ok (.iload_n 2, 1) := by decide +kernel
theorem dX7_thingByKey_3 : decode cX7_thingByKey 3 = .ok (.bipush 12, 2) := by decide +kernel
theorem dX7_thingByKey_5 : decode cX7_thingByKey 5 = .ok (.if_icmp .ge 33, 3) := by decide +kernel
theorem dX7_thingByKey_8 : decode cX7_thingByKey 8 = .ok (.iload_n 1, 1) := by decide +kernel
theorem dX7_thingByKey_9 : decode cX7_thingByKey 9 = .ok (.ifCond .eq 29, 3) := by decide +kernel
theorem dX7_thingByKey_12 : decode cX7_thingByKey 12 = .ok (.aload_n 0, 1) := by decide +kernel
theorem dX7_thingByKey_13 : decode cX7_thingByKey 13 = .ok (.iload_n 2, 1) := by decide +kernel
theorem dX7_thingByKey_14 : decode cX7_thingByKey 14 = .ok (.invokestatic 212, 3) := by decide +kernel
theorem dX7_thingByKey_17 : decode cX7_thingByKey 17 = .ok (.astore_n 3, 1) := by decide +kernel
theorem dX7_thingByKey_18 : decode cX7_thingByKey 18 = .ok (.aload_n 3, 1) := by decide +kernel
theorem dX7_thingByKey_19 : decode cX7_thingByKey 19 = .ok (.ifnull 13, 3) := by decide +kernel
theorem dX7_thingByKey_22 : decode cX7_thingByKey 22 = .ok (.aload_n 3, 1) := by decide +kernel
theorem dX7_thingByKey_23 : decode cX7_thingByKey 23 = .ok (.getfield 219, 3) := by decide +kernel
theorem dX7_thingByKey_26 : decode cX7_thingByKey 26 = .ok (.iload_n 1, 1) := by decide +kernel
theorem dX7_thingByKey_27 : decode cX7_thingByKey 27 = .ok (.if_icmp .ne 5, 3) := by decide +kernel
theorem dX7_thingByKey_30 : decode cX7_thingByKey 30 = .ok (.aload_n 3, 1) := by decide +kernel
theorem dX7_thingByKey_31 : decode cX7_thingByKey 31 = .ok (.areturn, 1) := by decide +kernel
theorem dX7_thingByKey_32 : decode cX7_thingByKey 32 = .ok (.iinc 2 1, 3) := by decide +kernel
theorem dX7_thingByKey_35 : decode cX7_thingByKey 35 = .ok (.goto (-33), 3) := by decide +kernel
theorem dX7_thingByKey_38 : decode cX7_thingByKey 38 = .ok (.aconst_null, 1) := by decide +kernel
theorem dX7_thingByKey_39 : decode cX7_thingByKey 39 = .ok (.areturn, 1) := by decide +kernel
theorem dX7_freeSlot_0 : decode cX7_freeSlot 0 = .ok (.iconst 0, 1) := by decide +kernel
theorem dX7_freeSlot_1 : decode cX7_freeSlot 1 = .ok (.istore_n 1, 1) := by decide +kernel
theorem dX7_freeSlot_2 : decode cX7_freeSlot 2 = .ok (.iload_n 1, 1) := by decide +kernel
theorem dX7_freeSlot_3 : decode cX7_freeSlot 3 = .ok (.bipush 12, 2) := by decide +kernel
theorem dX7_freeSlot_5 : decode cX7_freeSlot 5 = .ok (.if_icmp .ge 19, 3) := by decide +kernel
theorem dX7_freeSlot_8 : decode cX7_freeSlot 8 = .ok (.aload_n 0, 1) := by decide +kernel
theorem dX7_freeSlot_9 : decode cX7_freeSlot 9 = .ok (.iload_n 1, 1) := by decide +kernel
theorem dX7_freeSlot_10 : decode cX7_freeSlot 10 = .ok (.invokestatic 212, 3) := by decide +kernel
theorem dX7_freeSlot_13 : decode cX7_freeSlot 13 = .ok (.ifnonnull 5, 3) := by decide +kernel
theorem dX7_freeSlot_16 : decode cX7_freeSlot 16 = .ok (.iload_n 1, 1) := by decide +kernel
theorem dX7_freeSlot_17 : decode cX7_freeSlot 17 = .ok (.ireturn, 1) := by decide +kernel
theorem dX7_freeSlot_18 : decode cX7_freeSlot 18 = .ok (.iinc 1 1, 3) := by decide +kernel
theorem dX7_freeSlot_21 : decode cX7_freeSlot 21 = .ok (.goto (-19), 3) := by decide +kernel
theorem dX7_freeSlot_24 : decode cX7_freeSlot 24 = .ok (.iconst (-1), 1) := by decide +kernel
theorem dX7_freeSlot_25 : decode cX7_freeSlot 25 = .ok (.ireturn, 1) := by decide +kernel
theorem dX7_thingOf_0 : decode cX7_thingOf 0 = .ok (.iload_n 1, 1) := by decide +kernel
theorem dX7_thingOf_1 : decode cX7_thingOf 1 = .ok (.ifCond .ne 10, 3) := by decide +kernel
theorem dX7_thingOf_4 : decode cX7_thingOf 4 = .ok (.aload_n 0, 1) := by decide +kernel
theorem dX7_thingOf_5 : decode cX7_thingOf 5 = .ok (.getfield 21, 3) := by decide +kernel
theorem dX7_thingOf_8 : decode cX7_thingOf 8 = .ok (.goto 7, 3) := by decide +kernel
theorem dX7_thingOf_11 : decode cX7_thingOf 11 = .ok (.aload_n 0, 1) := by decide +kernel
theorem dX7_thingOf_12 : decode cX7_thingOf 12 = .ok (.getfield 25, 3) := by decide +kernel
theorem dX7_thingOf_15 : decode cX7_thingOf 15 = .ok (.iload_n 2, 1) := by decide +kernel
theorem dX7_thingOf_16 : decode cX7_thingOf 16 = .ok (.invokestatic 222, 3) := by decide +kernel
theorem dX7_thingOf_19 : decode cX7_thingOf 19 = .ok (.areturn, 1) := by decide +kernel
theorem dX7_queueIn_0 : decode cX7_queueIn 0 = .ok (.aload_n 0, 1) := by decide +kernel
theorem dX7_queueIn_1 : decode cX7_queueIn 1 = .ok (.getfield 21, 3) := by decide +kernel
theorem dX7_queueIn_4 : decode cX7_queueIn 4 = .ok (.iload_n 1, 1) := by decide +kernel
theorem dX7_queueIn_5 : decode cX7_queueIn 5 = .ok (.invokestatic 212, 3) := by decide +kernel
theorem dX7_queueIn_8 : decode cX7_queueIn 8 = .ok (.astore_n 3, 1) := by decide +kernel
theorem dX7_queueIn_9 : decode cX7_queueIn 9 = .ok (.aload_n 3, 1) := by decide +kernel
theorem dX7_queueIn_10 : decode cX7_queueIn 10 = .ok (.instanceof 142, 3) := by decide +kernel
theorem dX7_queueIn_13 : decode cX7_queueIn 13 = .ok (.ifCond .eq 12, 3) := by decide +kernel
theorem dX7_queueIn_16 : decode cX7_queueIn 16 = .ok (.aload_n 3, 1) := by decide +kernel
theorem dX7_queueIn_17 : decode cX7_queueIn 17 = .ok (.checkcast 142, 3) := by decide +kernel
theorem dX7_queueIn_20 : decode cX7_queueIn 20 = .ok (.astore_n 2, 1) := by decide +kernel
theorem dX7_queueIn_21 : decode cX7_queueIn 21 = .ok (.aload_n 2, 1) := by decide +kernel
theorem dX7_queueIn_22 : decode cX7_queueIn 22 = .ok (.goto 4, 3) := by decide +kernel
theorem dX7_queueIn_25 : decode cX7_queueIn 25 = .ok (.aconst_null, 1) := by decide +kernel
theorem dX7_queueIn_26 : decode cX7_queueIn 26 = .ok (.areturn, 1) := by decide +kernel
theorem dX7_setIn_0 : decode cX7_setIn 0 = .ok (.aload_n 0, 1) := by decide +kernel
theorem dX7_setIn_1 : decode cX7_setIn 1 = .ok (.getfield 25, 3) := by decide +kernel
theorem dX7_setIn_4 : decode cX7_setIn 4 = .ok (.iload_n 1, 1) := by decide +kernel
theorem dX7_setIn_5 : decode cX7_setIn 5 = .ok (.invokestatic 212, 3) := by decide +kernel
theorem dX7_setIn_8 : decode cX7_setIn 8 = .ok (.astore_n 3, 1) := by decide +kernel
theorem dX7_setIn_9 : decode cX7_setIn 9 = .ok (.aload_n 3, 1) := by decide +kernel
theorem dX7_setIn_10 : decode cX7_setIn 10 = .ok (.instanceof 64, 3) := by decide +kernel
theorem dX7_setIn_13 : decode cX7_setIn 13 = .ok (.ifCond .eq 12, 3) := by decide +kernel
theorem dX7_setIn_16 : decode cX7_setIn 16 = .ok (.aload_n 3, 1) := by decide +kernel
theorem dX7_setIn_17 : decode cX7_setIn 17 = .ok (.checkcast 64, 3) := by decide +kernel
theorem dX7_setIn_20 : decode cX7_setIn 20 = .ok (.astore_n 2, 1) := by decide +kernel
theorem dX7_setIn_21 : decode cX7_setIn 21 = .ok (.aload_n 2, 1) := by decide +kernel
theorem dX7_setIn_22 : decode cX7_setIn 22 = .ok (.goto 4, 3) := by decide +kernel
theorem dX7_setIn_25 : decode cX7_setIn 25 = .ok (.aconst_null, 1) := by decide +kernel
theorem dX7_setIn_26 : decode cX7_setIn 26 = .ok (.areturn, 1) := by decide +kernel
theorem dX7_queueById_0 : decode cX7_queueById 0 = .ok (.aload_n 0, 1) := by decide +kernel
theorem dX7_queueById_1 : decode cX7_queueById 1 = .ok (.getfield 21, 3) := by decide +kernel
theorem dX7_queueById_4 : decode cX7_queueById 4 = .ok (.iload_n 1, 1) := by decide +kernel
theorem dX7_queueById_5 : decode cX7_queueById 5 = .ok (.invokestatic 222, 3) := by decide +kernel
theorem dX7_queueById_8 : decode cX7_queueById 8 = .ok (.astore_n 3, 1) := by decide +kernel
theorem dX7_queueById_9 : decode cX7_queueById 9 = .ok (.aload_n 3, 1) := by decide +kernel
theorem dX7_queueById_10 : decode cX7_queueById 10 = .ok (.instanceof 142, 3) := by decide +kernel
theorem dX7_queueById_13 : decode cX7_queueById 13 = .ok (.ifCond .eq 12, 3) := by decide +kernel
theorem dX7_queueById_16 : decode cX7_queueById 16 = .ok (.aload_n 3, 1) := by decide +kernel
theorem dX7_queueById_17 : decode cX7_queueById 17 = .ok (.checkcast 142, 3) := by decide +kernel
theorem dX7_queueById_20 : decode cX7_queueById 20 = .ok (.astore_n 2, 1) := by decide +kernel
theorem dX7_queueById_21 : decode cX7_queueById 21 = .ok (.aload_n 2, 1) := by decide +kernel
theorem dX7_queueById_22 : decode cX7_queueById 22 = .ok (.goto 4, 3) := by decide +kernel
theorem dX7_queueById_25 : decode cX7_queueById 25 = .ok (.aconst_null, 1) := by decide +kernel
theorem dX7_queueById_26 : decode cX7_queueById 26 = .ok (.areturn, 1) := by decide +kernel
theorem dX7_setById_0 : decode cX7_setById 0 = .ok (.aload_n 0, 1) := by decide +kernel
theorem dX7_setById_1 : decode cX7_setById 1 = .ok (.getfield 25, 3) := by decide +kernel
theorem dX7_setById_4 : decode cX7_setById 4 = .ok (.iload_n 1, 1) := by decide +kernel
theorem dX7_setById_5 : decode cX7_setById 5 = .ok (.invokestatic 222, 3) := by decide +kernel
theorem dX7_setById_8 : decode cX7_setById 8 = .ok (.astore_n 3, 1) := by decide +kernel
theorem dX7_setById_9 : decode cX7_setById 9 = .ok (.aload_n 3, 1) := by decide +kernel
theorem dX7_setById_10 : decode cX7_setById 10 = .ok (.instanceof 64, 3) := by decide +kernel
theorem dX7_setById_13 : decode cX7_setById 13 = .ok (.ifCond .eq 12, 3) := by decide +kernel
theorem dX7_setById_16 : decode cX7_setById 16 = .ok (.aload_n 3, 1) := by decide +kernel
theorem dX7_setById_17 : decode cX7_setById 17 = .ok (.checkcast 64, 3) := by decide +kernel
theorem dX7_setById_20 : decode cX7_setById 20 = .ok (.astore_n 2, 1) := by decide +kernel
theorem dX7_setById_21 : decode cX7_setById 21 = .ok (.aload_n 2, 1) := by decide +kernel
theorem dX7_setById_22 : decode cX7_setById 22 = .ok (.goto 4, 3) := by decide +kernel
theorem dX7_setById_25 : decode cX7_setById 25 = .ok (.aconst_null, 1) := by decide +kernel
theorem dX7_setById_26 : decode cX7_setById 26 = .ok (.areturn, 1) := by decide +kernel
theorem dX7_living_0 : decode cX7_living 0 = .ok (.iconst 0, 1) := by decide +kernel
theorem dX7_living_1 : decode cX7_living 1 = .ok (.istore_n 1, 1) := by decide +kernel
theorem dX7_living_2 : decode cX7_living 2 = .ok (.iconst 0, 1) := by decide +kernel
theorem dX7_living_3 : decode cX7_living 3 = .ok (.istore_n 2, 1) := by decide +kernel
theorem dX7_living_4 : decode cX7_living 4 = .ok (.iload_n 2, 1) := by decide +kernel
theorem dX7_living_5 : decode cX7_living 5 = .ok (.bipush 16, 2) := by decide +kernel
theorem dX7_living_7 : decode cX7_living 7 = .ok (.if_icmp .ge 30, 3) := by decide +kernel
theorem dX7_living_10 : decode cX7_living 10 = .ok (.aload_n 0, 1) := by decide +kernel
theorem dX7_living_11 : decode cX7_living 11 = .ok (.getfield 11, 3) := by decide +kernel
theorem dX7_living_14 : decode cX7_living 14 = .ok (.iload_n 2, 1) := by decide +kernel
theorem dX7_living_15 : decode cX7_living 15 = .ok (.aaload, 1) := by decide +kernel
theorem dX7_living_16 : decode cX7_living 16 = .ok (.astore_n 3, 1) := by decide +kernel
theorem dX7_living_17 : decode cX7_living 17 = .ok (.aload_n 3, 1) := by decide +kernel
theorem dX7_living_18 : decode cX7_living 18 = .ok (.ifnull 13, 3) := by decide +kernel
theorem dX7_living_21 : decode cX7_living 21 = .ok (.aload_n 3, 1) := by decide +kernel
theorem dX7_living_22 : decode cX7_living 22 = .ok (.getfield 45, 3) := by decide +kernel
theorem dX7_living_25 : decode cX7_living 25 = .ok (.ifCond .eq 6, 3) := by decide +kernel
theorem dX7_living_28 : decode cX7_living 28 = .ok (.iinc 1 1, 3) := by decide +kernel
theorem dX7_living_31 : decode cX7_living 31 = .ok (.iinc 2 1, 3) := by decide +kernel
theorem dX7_living_34 : decode cX7_living 34 = .ok (.goto (-30), 3) := by decide +kernel
theorem dX7_living_37 : decode cX7_living 37 = .ok (.iload_n 1, 1) := by decide +kernel
theorem dX7_living_38 : decode cX7_living 38 = .ok (.ireturn, 1) := by decide +kernel
theorem dX7_thingsIn_0 : decode cX7_thingsIn 0 = .ok (.iconst 0, 1) := by decide +kernel
theorem dX7_thingsIn_1 : decode cX7_thingsIn 1 = .ok (.istore_n 1, 1) := by decide +kernel
theorem dX7_thingsIn_2 : decode cX7_thingsIn 2 = .ok (.iconst 0, 1) := by decide +kernel
theorem dX7_thingsIn_3 : decode cX7_thingsIn 3 = .ok (.istore_n 2, 1) := by decide +kernel
theorem dX7_thingsIn_4 : decode cX7_thingsIn 4 = .ok (.iload_n 2, 1) := by decide +kernel
theorem dX7_thingsIn_5 : decode cX7_thingsIn 5 = .ok (.bipush 12, 2) := by decide +kernel
theorem dX7_thingsIn_7 : decode cX7_thingsIn 7 = .ok (.if_icmp .ge 20, 3) := by decide +kernel
theorem dX7_thingsIn_10 : decode cX7_thingsIn 10 = .ok (.aload_n 0, 1) := by decide +kernel
theorem dX7_thingsIn_11 : decode cX7_thingsIn 11 = .ok (.iload_n 2, 1) := by decide +kernel
theorem dX7_thingsIn_12 : decode cX7_thingsIn 12 = .ok (.invokestatic 212, 3) := by decide +kernel
theorem dX7_thingsIn_15 : decode cX7_thingsIn 15 = .ok (.ifnull 6, 3) := by decide +kernel
theorem dX7_thingsIn_18 : decode cX7_thingsIn 18 = .ok (.iinc 1 1, 3) := by decide +kernel
theorem dX7_thingsIn_21 : decode cX7_thingsIn 21 = .ok (.iinc 2 1, 3) := by decide +kernel
theorem dX7_thingsIn_24 : decode cX7_thingsIn 24 = .ok (.goto (-20), 3) := by decide +kernel
theorem dX7_thingsIn_27 : decode cX7_thingsIn 27 = .ok (.iload_n 1, 1) := by decide +kernel
theorem dX7_thingsIn_28 : decode cX7_thingsIn 28 = .ok (.ireturn, 1) := by decide +kernel
theorem dX7_allBytes_0 : decode cX7_allBytes 0 = .ok (.iconst 0, 1) := by decide +kernel
theorem dX7_allBytes_1 : decode cX7_allBytes 1 = .ok (.istore_n 1, 1) := by decide +kernel
theorem dX7_allBytes_2 : decode cX7_allBytes 2 = .ok (.iconst 0, 1) := by decide +kernel
theorem dX7_allBytes_3 : decode cX7_allBytes 3 = .ok (.istore_n 2, 1) := by decide +kernel
theorem dX7_allBytes_4 : decode cX7_allBytes 4 = .ok (.iload_n 2, 1) := by decide +kernel
theorem dX7_allBytes_5 : decode cX7_allBytes 5 = .ok (.bipush 12, 2) := by decide +kernel
theorem dX7_allBytes_7 : decode cX7_allBytes 7 = .ok (.if_icmp .ge 45, 3) := by decide +kernel
theorem dX7_allBytes_10 : decode cX7_allBytes 10 = .ok (.aload_n 0, 1) := by decide +kernel
theorem dX7_allBytes_11 : decode cX7_allBytes 11 = .ok (.getfield 21, 3) := by decide +kernel
theorem dX7_allBytes_14 : decode cX7_allBytes 14 = .ok (.iload_n 2, 1) := by decide +kernel
theorem dX7_allBytes_15 : decode cX7_allBytes 15 = .ok (.aaload, 1) := by decide +kernel
theorem dX7_allBytes_16 : decode cX7_allBytes 16 = .ok (.astore 4, 2) := by decide +kernel
theorem dX7_allBytes_18 : decode cX7_allBytes 18 = .ok (.aload 4, 2) := by decide +kernel
theorem dX7_allBytes_20 : decode cX7_allBytes 20 = .ok (.instanceof 142, 3) := by decide +kernel
theorem dX7_allBytes_23 : decode cX7_allBytes 23 = .ok (.ifCond .eq 23, 3) := by decide +kernel
theorem dX7_allBytes_26 : decode cX7_allBytes 26 = .ok (.aload 4, 2) := by decide +kernel
theorem dX7_allBytes_28 : decode cX7_allBytes 28 = .ok (.checkcast 142, 3) := by decide +kernel
theorem dX7_allBytes_31 : decode cX7_allBytes 31 = .ok (.astore_n 3, 1) := by decide +kernel
theorem dX7_allBytes_32 : decode cX7_allBytes 32 = .ok (.aload_n 3, 1) := by decide +kernel
theorem dX7_allBytes_33 : decode cX7_allBytes 33 = .ok (.getfield 225, 3) := by decide +kernel
theorem dX7_allBytes_36 : decode cX7_allBytes 36 = .ok (.ifCond .eq 10, 3) := by decide +kernel
theorem dX7_allBytes_39 : decode cX7_allBytes 39 = .ok (.iload_n 1, 1) := by decide +kernel
theorem dX7_allBytes_40 : decode cX7_allBytes 40 = .ok (.aload_n 3, 1) := by decide +kernel
theorem dX7_allBytes_41 : decode cX7_allBytes 41 = .ok (.getfield 141, 3) := by decide +kernel
theorem dX7_allBytes_44 : decode cX7_allBytes 44 = .ok (.iadd, 1) := by decide +kernel
theorem dX7_allBytes_45 : decode cX7_allBytes 45 = .ok (.istore_n 1, 1) := by decide +kernel
theorem dX7_allBytes_46 : decode cX7_allBytes 46 = .ok (.iinc 2 1, 3) := by decide +kernel
theorem dX7_allBytes_49 : decode cX7_allBytes 49 = .ok (.goto (-45), 3) := by decide +kernel
theorem dX7_allBytes_52 : decode cX7_allBytes 52 = .ok (.iload_n 1, 1) := by decide +kernel
theorem dX7_allBytes_53 : decode cX7_allBytes 53 = .ok (.ireturn, 1) := by decide +kernel
theorem dX7_allMessages_0 : decode cX7_allMessages 0 = .ok (.iconst 0, 1) := by decide +kernel
theorem dX7_allMessages_1 : decode cX7_allMessages 1 = .ok (.istore_n 1, 1) := by decide +kernel
theorem dX7_allMessages_2 : decode cX7_allMessages 2 = .ok (.iconst 0, 1) := by decide +kernel
theorem dX7_allMessages_3 : decode cX7_allMessages 3 = .ok (.istore_n 2, 1) := by decide +kernel
theorem dX7_allMessages_4 : decode cX7_allMessages 4 = .ok (.iload_n 2, 1) := by decide +kernel
theorem dX7_allMessages_5 : decode cX7_allMessages 5 = .ok (.bipush 12, 2) := by decide +kernel
theorem dX7_allMessages_7 : decode cX7_allMessages 7 = .ok (.if_icmp .ge 45, 3) := by decide +kernel
theorem dX7_allMessages_10 : decode cX7_allMessages 10 = .ok (.aload_n 0, 1) := by decide +kernel
theorem dX7_allMessages_11 : decode cX7_allMessages 11 = .ok (.getfield 21, 3) := by decide +kernel
theorem dX7_allMessages_14 : decode cX7_allMessages 14 = .ok (.iload_n 2, 1) := by decide +kernel
theorem dX7_allMessages_15 : decode cX7_allMessages 15 = .ok (.aaload, 1) := by decide +kernel
theorem dX7_allMessages_16 : decode cX7_allMessages 16 = .ok (.astore 4, 2) := by decide +kernel
theorem dX7_allMessages_18 : decode cX7_allMessages 18 = .ok (.aload 4, 2) := by decide +kernel
theorem dX7_allMessages_20 : decode cX7_allMessages 20 = .ok (.instanceof 142, 3) := by decide +kernel
theorem dX7_allMessages_23 : decode cX7_allMessages 23 = .ok (.ifCond .eq 23, 3) := by decide +kernel
theorem dX7_allMessages_26 : decode cX7_allMessages 26 = .ok (.aload 4, 2) := by decide +kernel
theorem dX7_allMessages_28 : decode cX7_allMessages 28 = .ok (.checkcast 142, 3) := by decide +kernel
theorem dX7_allMessages_31 : decode cX7_allMessages 31 = .ok (.astore_n 3, 1) := by decide +kernel
theorem dX7_allMessages_32 : decode cX7_allMessages 32 = .ok (.aload_n 3, 1) := by decide +kernel
theorem dX7_allMessages_33 : decode cX7_allMessages 33 = .ok (.getfield 225, 3) := by decide +kernel
theorem dX7_allMessages_36 : decode cX7_allMessages 36 = .ok (.ifCond .eq 10, 3) := by decide +kernel
theorem dX7_allMessages_39 : decode cX7_allMessages 39 = .ok (.iload_n 1, 1) := by decide +kernel
theorem dX7_allMessages_40 : decode cX7_allMessages 40 = .ok (.aload_n 3, 1) := by decide +kernel
theorem dX7_allMessages_41 : decode cX7_allMessages 41 = .ok (.getfield 149, 3) := by decide +kernel
theorem dX7_allMessages_44 : decode cX7_allMessages 44 = .ok (.iadd, 1) := by decide +kernel
theorem dX7_allMessages_45 : decode cX7_allMessages 45 = .ok (.istore_n 1, 1) := by decide +kernel
theorem dX7_allMessages_46 : decode cX7_allMessages 46 = .ok (.iinc 2 1, 3) := by decide +kernel
theorem dX7_allMessages_49 : decode cX7_allMessages 49 = .ok (.goto (-45), 3) := by decide +kernel
theorem dX7_allMessages_52 : decode cX7_allMessages 52 = .ok (.iload_n 1, 1) := by decide +kernel
theorem dX7_allMessages_53 : decode cX7_allMessages 53 = .ok (.ireturn, 1) := by decide +kernel
theorem dX7_beginWait_0 : decode cX7_beginWait 0 = .ok (.aload_n 0, 1) := by decide +kernel
theorem dX7_beginWait_1 : decode cX7_beginWait 1 = .ok (.getfield 31, 3) := by decide +kernel
theorem dX7_beginWait_4 : decode cX7_beginWait 4 = .ok (.bipush 16, 2) := by decide +kernel
theorem dX7_beginWait_6 : decode cX7_beginWait 6 = .ok (.if_icmp .ge 33, 3) := by decide +kernel
theorem dX7_beginWait_9 : decode cX7_beginWait 9 = .ok (.aload_n 1, 1) := by decide +kernel
theorem dX7_beginWait_10 : decode cX7_beginWait 10 = .ok (.iload_n 2, 1) := by decide +kernel
theorem dX7_beginWait_11 : decode cX7_beginWait 11 = .ok (.putfield 49, 3) := by decide +kernel
theorem dX7_beginWait_14 : decode cX7_beginWait 14 = .ok (.aload_n 1, 1) := by decide +kernel
theorem dX7_beginWait_15 : decode cX7_beginWait 15 = .ok (.aload_n 3, 1) := by decide +kernel
theorem dX7_beginWait_16 : decode cX7_beginWait 16 = .ok (.putfield 226, 3) := by decide +kernel
theorem dX7_beginWait_19 : decode cX7_beginWait 19 = .ok (.aload_n 0, 1) := by decide +kernel
theorem dX7_beginWait_20 : decode cX7_beginWait 20 = .ok (.getfield 28, 3) := by decide +kernel
theorem dX7_beginWait_23 : decode cX7_beginWait 23 = .ok (.aload_n 0, 1) := by decide +kernel
theorem dX7_beginWait_24 : decode cX7_beginWait 24 = .ok (.getfield 31, 3) := by decide +kernel
theorem dX7_beginWait_27 : decode cX7_beginWait 27 = .ok (.aload_n 1, 1) := by decide +kernel
theorem dX7_beginWait_28 : decode cX7_beginWait 28 = .ok (.aastore, 1) := by decide +kernel
theorem dX7_beginWait_29 : decode cX7_beginWait 29 = .ok (.aload_n 0, 1) := by decide +kernel
theorem dX7_beginWait_30 : decode cX7_beginWait 30 = .ok (.dup, 1) := by decide +kernel
theorem dX7_beginWait_31 : decode cX7_beginWait 31 = .ok (.getfield 31, 3) := by decide +kernel
theorem dX7_beginWait_34 : decode cX7_beginWait 34 = .ok (.iconst 1, 1) := by decide +kernel
theorem dX7_beginWait_35 : decode cX7_beginWait 35 = .ok (.iadd, 1) := by decide +kernel
theorem dX7_beginWait_36 : decode cX7_beginWait 36 = .ok (.putfield 31, 3) := by decide +kernel
theorem dX7_beginWait_39 : decode cX7_beginWait 39 = .ok (.return_, 1) := by decide +kernel
theorem dX7_goOn_0 : decode cX7_goOn 0 = .ok (.iconst 0, 1) := by decide +kernel
theorem dX7_goOn_1 : decode cX7_goOn 1 = .ok (.istore_n 3, 1) := by decide +kernel
theorem dX7_goOn_2 : decode cX7_goOn 2 = .ok (.iconst 0, 1) := by decide +kernel
theorem dX7_goOn_3 : decode cX7_goOn 3 = .ok (.istore 4, 2) := by decide +kernel
theorem dX7_goOn_5 : decode cX7_goOn 5 = .ok (.iload 4, 2) := by decide +kernel
theorem dX7_goOn_7 : decode cX7_goOn 7 = .ok (.aload_n 0, 1) := by decide +kernel
theorem dX7_goOn_8 : decode cX7_goOn 8 = .ok (.getfield 31, 3) := by decide +kernel
theorem dX7_goOn_11 : decode cX7_goOn 11 = .ok (.if_icmp .ge 50, 3) := by decide +kernel
theorem dX7_goOn_14 : decode cX7_goOn 14 = .ok (.iload 4, 2) := by decide +kernel
theorem dX7_goOn_16 : decode cX7_goOn 16 = .ok (.bipush 16, 2) := by decide +kernel
theorem dX7_goOn_18 : decode cX7_goOn 18 = .ok (.if_icmp .ge 43, 3) := by decide +kernel
theorem dX7_goOn_21 : decode cX7_goOn 21 = .ok (.aload_n 0, 1) := by decide +kernel
theorem dX7_goOn_22 : decode cX7_goOn 22 = .ok (.getfield 28, 3) := by decide +kernel
theorem dX7_goOn_25 : decode cX7_goOn 25 = .ok (.iload 4, 2) := by decide +kernel
theorem dX7_goOn_27 : decode cX7_goOn 27 = .ok (.aaload, 1) := by decide +kernel
theorem dX7_goOn_28 : decode cX7_goOn 28 = .ok (.astore 5, 2) := by decide +kernel
theorem dX7_goOn_30 : decode cX7_goOn 30 = .ok (.aload_n 0, 1) := by decide +kernel
theorem dX7_goOn_31 : decode cX7_goOn 31 = .ok (.getfield 28, 3) := by decide +kernel
theorem dX7_goOn_34 : decode cX7_goOn 34 = .ok (.iload 4, 2) := by decide +kernel
theorem dX7_goOn_36 : decode cX7_goOn 36 = .ok (.aconst_null, 1) := by decide +kernel
theorem dX7_goOn_37 : decode cX7_goOn 37 = .ok (.aastore, 1) := by decide +kernel
theorem dX7_goOn_38 : decode cX7_goOn 38 = .ok (.aload 5, 2) := by decide +kernel
theorem dX7_goOn_40 : decode cX7_goOn 40 = .ok (.aload_n 1, 1) := by decide +kernel
theorem dX7_goOn_41 : decode cX7_goOn 41 = .ok (.if_acmp .eq 14, 3) := by decide +kernel
theorem dX7_goOn_44 : decode cX7_goOn 44 = .ok (.aload_n 0, 1) := by decide +kernel
theorem dX7_goOn_45 : decode cX7_goOn 45 = .ok (.getfield 28, 3) := by decide +kernel
theorem dX7_goOn_48 : decode cX7_goOn 48 = .ok (.iload_n 3, 1) := by decide +kernel
theorem dX7_goOn_49 : decode cX7_goOn 49 = .ok (.aload 5, 2) := by decide +kernel
theorem dX7_goOn_51 : decode cX7_goOn 51 = .ok (.aastore, 1) := by decide +kernel
theorem dX7_goOn_52 : decode cX7_goOn 52 = .ok (.iinc 3 1, 3) := by decide +kernel
theorem dX7_goOn_55 : decode cX7_goOn 55 = .ok (.iinc 4 1, 3) := by decide +kernel
theorem dX7_goOn_58 : decode cX7_goOn 58 = .ok (.goto (-53), 3) := by decide +kernel
theorem dX7_goOn_61 : decode cX7_goOn 61 = .ok (.aload_n 0, 1) := by decide +kernel
theorem dX7_goOn_62 : decode cX7_goOn 62 = .ok (.iload_n 3, 1) := by decide +kernel
theorem dX7_goOn_63 : decode cX7_goOn 63 = .ok (.putfield 31, 3) := by decide +kernel
theorem dX7_goOn_66 : decode cX7_goOn 66 = .ok (.aload_n 1, 1) := by decide +kernel
theorem dX7_goOn_67 : decode cX7_goOn 67 = .ok (.iconst 0, 1) := by decide +kernel
theorem dX7_goOn_68 : decode cX7_goOn 68 = .ok (.putfield 49, 3) := by decide +kernel
theorem dX7_goOn_71 : decode cX7_goOn 71 = .ok (.aload_n 1, 1) := by decide +kernel
theorem dX7_goOn_72 : decode cX7_goOn 72 = .ok (.aconst_null, 1) := by decide +kernel
theorem dX7_goOn_73 : decode cX7_goOn 73 = .ok (.putfield 226, 3) := by decide +kernel
theorem dX7_goOn_76 : decode cX7_goOn 76 = .ok (.aload_n 1, 1) := by decide +kernel
theorem dX7_goOn_77 : decode cX7_goOn 77 = .ok (.iload_n 2, 1) := by decide +kernel
theorem dX7_goOn_78 : decode cX7_goOn 78 = .ok (.putfield 73, 3) := by decide +kernel
theorem dX7_goOn_81 : decode cX7_goOn 81 = .ok (.return_, 1) := by decide +kernel
theorem dX7_inLine_0 : decode cX7_inLine 0 = .ok (.iload_n 1, 1) := by decide +kernel
theorem dX7_inLine_1 : decode cX7_inLine 1 = .ok (.ifCond .lt 26, 3) := by decide +kernel
theorem dX7_inLine_4 : decode cX7_inLine 4 = .ok (.iload_n 1, 1) := by decide +kernel
theorem dX7_inLine_5 : decode cX7_inLine 5 = .ok (.aload_n 0, 1) := by decide +kernel
theorem dX7_inLine_6 : decode cX7_inLine 6 = .ok (.getfield 31, 3) := by decide +kernel
theorem dX7_inLine_9 : decode cX7_inLine 9 = .ok (.if_icmp .ge 18, 3) := by decide +kernel
theorem dX7_inLine_12 : decode cX7_inLine 12 = .ok (.iload_n 1, 1) := by decide +kernel
theorem dX7_inLine_13 : decode cX7_inLine 13 = .ok (.bipush 16, 2) := by decide +kernel
theorem dX7_inLine_15 : decode cX7_inLine 15 = .ok (.if_icmp .ge 12, 3) := by decide +kernel
theorem dX7_inLine_18 : decode cX7_inLine 18 = .ok (.aload_n 0, 1) := by decide +kernel
theorem dX7_inLine_19 : decode cX7_inLine 19 = .ok (.getfield 28, 3) := by decide +kernel
theorem dX7_inLine_22 : decode cX7_inLine 22 = .ok (.iload_n 1, 1) := by decide +kernel
theorem dX7_inLine_23 : decode cX7_inLine 23 = .ok (.aaload, 1) := by decide +kernel
theorem dX7_inLine_24 : decode cX7_inLine 24 = .ok (.goto 4, 3) := by decide +kernel
theorem dX7_inLine_27 : decode cX7_inLine 27 = .ok (.aconst_null, 1) := by decide +kernel
theorem dX7_inLine_28 : decode cX7_inLine 28 = .ok (.areturn, 1) := by decide +kernel
theorem dX7_waitersOn_0 : decode cX7_waitersOn 0 = .ok (.iconst 0, 1) := by decide +kernel
theorem dX7_waitersOn_1 : decode cX7_waitersOn 1 = .ok (.istore_n 3, 1) := by decide +kernel
theorem dX7_waitersOn_2 : decode cX7_waitersOn 2 = .ok (.iconst 0, 1) := by decide +kernel
theorem dX7_waitersOn_3 : decode cX7_waitersOn 3 = .ok (.istore 4, 2) := by decide +kernel
theorem dX7_waitersOn_5 : decode cX7_waitersOn 5 = .ok (.iload 4, 2) := by decide +kernel
theorem dX7_waitersOn_7 : decode cX7_waitersOn 7 = .ok (.aload_n 0, 1) := by decide +kernel
theorem dX7_waitersOn_8 : decode cX7_waitersOn 8 = .ok (.getfield 31, 3) := by decide +kernel
theorem dX7_waitersOn_11 : decode cX7_waitersOn 11 = .ok (.if_icmp .ge 35, 3) := by decide +kernel
theorem dX7_waitersOn_14 : decode cX7_waitersOn 14 = .ok (.aload_n 0, 1) := by decide +kernel
theorem dX7_waitersOn_15 : decode cX7_waitersOn 15 = .ok (.iload 4, 2) := by decide +kernel
theorem dX7_waitersOn_17 : decode cX7_waitersOn 17 = .ok (.invokevirtual 230, 3) := by decide +kernel
theorem dX7_waitersOn_20 : decode cX7_waitersOn 20 = .ok (.astore 5, 2) := by decide +kernel
theorem dX7_waitersOn_22 : decode cX7_waitersOn 22 = .ok (.aload 5, 2) := by decide +kernel
theorem dX7_waitersOn_24 : decode cX7_waitersOn 24 = .ok (.ifnull 16, 3) := by decide +kernel
theorem dX7_waitersOn_27 : decode cX7_waitersOn 27 = .ok (.aload 5, 2) := by decide +kernel
theorem dX7_waitersOn_29 : decode cX7_waitersOn 29 = .ok (.iload_n 2, 1) := by decide +kernel
theorem dX7_waitersOn_30 : decode cX7_waitersOn 30 = .ok (.aload_n 1, 1) := by decide +kernel
theorem dX7_waitersOn_31 : decode cX7_waitersOn 31 = .ok (.invokevirtual 233, 3) := by decide +kernel
theorem dX7_waitersOn_34 : decode cX7_waitersOn 34 = .ok (.ifCond .eq 6, 3) := by decide +kernel
theorem dX7_waitersOn_37 : decode cX7_waitersOn 37 = .ok (.iinc 3 1, 3) := by decide +kernel
theorem dX7_waitersOn_40 : decode cX7_waitersOn 40 = .ok (.iinc 4 1, 3) := by decide +kernel
theorem dX7_waitersOn_43 : decode cX7_waitersOn 43 = .ok (.goto (-38), 3) := by decide +kernel
theorem dX7_waitersOn_46 : decode cX7_waitersOn 46 = .ok (.iload_n 3, 1) := by decide +kernel
theorem dX7_waitersOn_47 : decode cX7_waitersOn 47 = .ok (.ireturn, 1) := by decide +kernel
theorem dX7_stoppedAt_0 : decode cX7_stoppedAt 0 = .ok (.iconst 0, 1) := by decide +kernel
theorem dX7_stoppedAt_1 : decode cX7_stoppedAt 1 = .ok (.istore 4, 2) := by decide +kernel
theorem dX7_stoppedAt_3 : decode cX7_stoppedAt 3 = .ok (.iconst 0, 1) := by decide +kernel
theorem dX7_stoppedAt_4 : decode cX7_stoppedAt 4 = .ok (.istore 5, 2) := by decide +kernel
theorem dX7_stoppedAt_6 : decode cX7_stoppedAt 6 = .ok (.iload 5, 2) := by decide +kernel
theorem dX7_stoppedAt_8 : decode cX7_stoppedAt 8 = .ok (.aload_n 0, 1) := by decide +kernel
theorem dX7_stoppedAt_9 : decode cX7_stoppedAt 9 = .ok (.getfield 31, 3) := by decide +kernel
theorem dX7_stoppedAt_12 : decode cX7_stoppedAt 12 = .ok (.if_icmp .ge 48, 3) := by decide +kernel
theorem dX7_stoppedAt_15 : decode cX7_stoppedAt 15 = .ok (.aload_n 0, 1) := by decide +kernel
theorem dX7_stoppedAt_16 : decode cX7_stoppedAt 16 = .ok (.iload 5, 2) := by decide +kernel
theorem dX7_stoppedAt_18 : decode cX7_stoppedAt 18 = .ok (.invokevirtual 230, 3) := by decide +kernel
theorem dX7_stoppedAt_21 : decode cX7_stoppedAt 21 = .ok (.astore 6, 2) := by decide +kernel
theorem dX7_stoppedAt_23 : decode cX7_stoppedAt 23 = .ok (.aload 6, 2) := by decide +kernel
theorem dX7_stoppedAt_25 : decode cX7_stoppedAt 25 = .ok (.ifnull 29, 3) := by decide +kernel
theorem dX7_stoppedAt_28 : decode cX7_stoppedAt 28 = .ok (.aload 6, 2) := by decide +kernel
theorem dX7_stoppedAt_30 : decode cX7_stoppedAt 30 = .ok (.iconst 3, 1) := by decide +kernel
theorem dX7_stoppedAt_31 : decode cX7_stoppedAt 31 = .ok (.aload_n 1, 1) := by decide +kernel
theorem dX7_stoppedAt_32 : decode cX7_stoppedAt 32 = .ok (.invokevirtual 233, 3) := by decide +kernel
theorem dX7_stoppedAt_35 : decode cX7_stoppedAt 35 = .ok (.ifCond .eq 19, 3) := by decide +kernel
theorem dX7_stoppedAt_38 : decode cX7_stoppedAt 38 = .ok (.aload 6, 2) := by decide +kernel
theorem dX7_stoppedAt_40 : decode cX7_stoppedAt 40 = .ok (.getfield 120, 3) := by decide +kernel
theorem dX7_stoppedAt_43 : decode cX7_stoppedAt 43 = .ok (.iload_n 2, 1) := by decide +kernel
theorem dX7_stoppedAt_44 : decode cX7_stoppedAt 44 = .ok (.iload_n 3, 1) := by decide +kernel
theorem dX7_stoppedAt_45 : decode cX7_stoppedAt 45 = .ok (.invokevirtual 237, 3) := by decide +kernel
theorem dX7_stoppedAt_48 : decode cX7_stoppedAt 48 = .ok (.ifCond .eq 6, 3) := by decide +kernel
theorem dX7_stoppedAt_51 : decode cX7_stoppedAt 51 = .ok (.iinc 4 1, 3) := by decide +kernel
theorem dX7_stoppedAt_54 : decode cX7_stoppedAt 54 = .ok (.iinc 5 1, 3) := by decide +kernel
theorem dX7_stoppedAt_57 : decode cX7_stoppedAt 57 = .ok (.goto (-51), 3) := by decide +kernel
theorem dX7_stoppedAt_60 : decode cX7_stoppedAt 60 = .ok (.iload 4, 2) := by decide +kernel
theorem dX7_stoppedAt_62 : decode cX7_stoppedAt 62 = .ok (.ireturn, 1) := by decide +kernel
theorem dX7_sendAway_0 : decode cX7_sendAway 0 = .ok (.bipush 15, 2) := by decide +kernel
theorem dX7_sendAway_2 : decode cX7_sendAway 2 = .ok (.istore_n 2, 1) := by decide +kernel
theorem dX7_sendAway_3 : decode cX7_sendAway 3 = .ok (.iload_n 2, 1) := by decide +kernel
theorem dX7_sendAway_4 : decode cX7_sendAway 4 = .ok (.ifCond .lt 34, 3) := by decide +kernel
theorem dX7_sendAway_7 : decode cX7_sendAway 7 = .ok (.aload_n 0, 1) := by decide +kernel
theorem dX7_sendAway_8 : decode cX7_sendAway 8 = .ok (.iload_n 2, 1) := by decide +kernel
theorem dX7_sendAway_9 : decode cX7_sendAway 9 = .ok (.invokevirtual 230, 3) := by decide +kernel
theorem dX7_sendAway_12 : decode cX7_sendAway 12 = .ok (.astore_n 3, 1) := by decide +kernel
theorem dX7_sendAway_13 : decode cX7_sendAway 13 = .ok (.aload_n 3, 1) := by decide +kernel
theorem dX7_sendAway_14 : decode cX7_sendAway 14 = .ok (.ifnull 18, 3) := by decide +kernel
theorem dX7_sendAway_17 : decode cX7_sendAway 17 = .ok (.aload_n 3, 1) := by decide +kernel
theorem dX7_sendAway_18 : decode cX7_sendAway 18 = .ok (.getfield 226, 3) := by decide +kernel
theorem dX7_sendAway_21 : decode cX7_sendAway 21 = .ok (.aload_n 1, 1) := by decide +kernel
theorem dX7_sendAway_22 : decode cX7_sendAway 22 = .ok (.if_acmp .ne 10, 3) := by decide +kernel
theorem dX7_sendAway_25 : decode cX7_sendAway 25 = .ok (.aload_n 0, 1) := by decide +kernel
theorem dX7_sendAway_26 : decode cX7_sendAway 26 = .ok (.aload_n 3, 1) := by decide +kernel
theorem dX7_sendAway_27 : decode cX7_sendAway 27 = .ok (.bipush (-14), 2) := by decide +kernel
theorem dX7_sendAway_29 : decode cX7_sendAway 29 = .ok (.invokevirtual 52, 3) := by decide +kernel
theorem dX7_sendAway_32 : decode cX7_sendAway 32 = .ok (.iinc 2 (-1), 3) := by decide +kernel
theorem dX7_sendAway_35 : decode cX7_sendAway 35 = .ok (.goto (-32), 3) := by decide +kernel
theorem dX7_sendAway_38 : decode cX7_sendAway 38 = .ok (.return_, 1) := by decide +kernel
theorem dX7_openQueue_0 : decode cX7_openQueue 0 = .ok (.iload_n 2, 1) := by decide +kernel
theorem dX7_openQueue_1 : decode cX7_openQueue 1 = .ok (.ldc 241, 2) := by decide +kernel
theorem dX7_openQueue_3 : decode cX7_openQueue 3 = .ok (.invokestatic 34, 3) := by decide +kernel
theorem dX7_openQueue_6 : decode cX7_openQueue 6 = .ok (.ifCond .eq 13, 3) := by decide +kernel
theorem dX7_openQueue_9 : decode cX7_openQueue 9 = .ok (.iload_n 3, 1) := by decide +kernel
theorem dX7_openQueue_10 : decode cX7_openQueue 10 = .ok (.sipush 2047, 3) := by decide +kernel
theorem dX7_openQueue_13 : decode cX7_openQueue 13 = .ok (.invokestatic 34, 3) := by decide +kernel
theorem dX7_openQueue_16 : decode cX7_openQueue 16 = .ok (.ifCond .ne 6, 3) := by decide +kernel
theorem dX7_openQueue_19 : decode cX7_openQueue 19 = .ok (.bipush (-4), 2) := by decide +kernel
theorem dX7_openQueue_21 : decode cX7_openQueue 21 = .ok (.ireturn, 1) := by decide +kernel
theorem dX7_openQueue_22 : decode cX7_openQueue 22 = .ok (.aload_n 0, 1) := by decide +kernel
theorem dX7_openQueue_23 : decode cX7_openQueue 23 = .ok (.getfield 21, 3) := by decide +kernel
theorem dX7_openQueue_26 : decode cX7_openQueue 26 = .ok (.iload_n 2, 1) := by decide +kernel
theorem dX7_openQueue_27 : decode cX7_openQueue 27 = .ok (.invokestatic 242, 3) := by decide +kernel
theorem dX7_openQueue_30 : decode cX7_openQueue 30 = .ok (.astore 4, 2) := by decide +kernel
theorem dX7_openQueue_32 : decode cX7_openQueue 32 = .ok (.aload 4, 2) := by decide +kernel
theorem dX7_openQueue_34 : decode cX7_openQueue 34 = .ok (.ifnonnull 24, 3) := by decide +kernel
theorem dX7_openQueue_37 : decode cX7_openQueue 37 = .ok (.iload_n 2, 1) := by decide +kernel
theorem dX7_openQueue_38 : decode cX7_openQueue 38 = .ok (.iload_n 3, 1) := by decide +kernel
theorem dX7_openQueue_39 : decode cX7_openQueue 39 = .ok (.invokestatic 245, 3) := by decide +kernel
theorem dX7_openQueue_42 : decode cX7_openQueue 42 = .ok (.ifCond .eq 13, 3) := by decide +kernel
theorem dX7_openQueue_45 : decode cX7_openQueue 45 = .ok (.aload_n 0, 1) := by decide +kernel
theorem dX7_openQueue_46 : decode cX7_openQueue 46 = .ok (.aload_n 1, 1) := by decide +kernel
theorem dX7_openQueue_47 : decode cX7_openQueue 47 = .ok (.iload_n 2, 1) := by decide +kernel
theorem dX7_openQueue_48 : decode cX7_openQueue 48 = .ok (.iload_n 3, 1) := by decide +kernel
theorem dX7_openQueue_49 : decode cX7_openQueue 49 = .ok (.invokevirtual 248, 3) := by decide +kernel
theorem dX7_openQueue_52 : decode cX7_openQueue 52 = .ok (.goto 5, 3) := by decide +kernel
theorem dX7_openQueue_55 : decode cX7_openQueue 55 = .ok (.bipush (-8), 2) := by decide +kernel
theorem dX7_openQueue_57 : decode cX7_openQueue 57 = .ok (.ireturn, 1) := by decide +kernel
theorem dX7_openQueue_58 : decode cX7_openQueue 58 = .ok (.iload_n 3, 1) := by decide +kernel
theorem dX7_openQueue_59 : decode cX7_openQueue 59 = .ok (.invokestatic 251, 3) := by decide +kernel
theorem dX7_openQueue_62 : decode cX7_openQueue 62 = .ok (.ifCond .eq 6, 3) := by decide +kernel
theorem dX7_openQueue_65 : decode cX7_openQueue 65 = .ok (.bipush (-7), 2) := by decide +kernel
theorem dX7_openQueue_67 : decode cX7_openQueue 67 = .ok (.ireturn, 1) := by decide +kernel
theorem dX7_openQueue_68 : decode cX7_openQueue 68 = .ok (.aload 4, 2) := by decide +kernel
theorem dX7_openQueue_70 : decode cX7_openQueue 70 = .ok (.aload_n 1, 1) := by decide +kernel
theorem dX7_openQueue_71 : decode cX7_openQueue 71 = .ok (.iload_n 3, 1) := by decide +kernel
theorem dX7_openQueue_72 : decode cX7_openQueue 72 = .ok (.invokestatic 254, 3) := by decide +kernel
theorem dX7_openQueue_75 : decode cX7_openQueue 75 = .ok (.invokevirtual 257, 3) := by decide +kernel
theorem dX7_openQueue_78 : decode cX7_openQueue 78 = .ok (.ifCond .eq 11, 3) := by decide +kernel
theorem dX7_openQueue_81 : decode cX7_openQueue 81 = .ok (.aload 4, 2) := by decide +kernel
theorem dX7_openQueue_83 : decode cX7_openQueue 83 = .ok (.getfield 216, 3) := by decide +kernel
theorem dX7_openQueue_86 : decode cX7_openQueue 86 = .ok (.goto 5, 3) := by decide +kernel
theorem dX7_openQueue_89 : decode cX7_openQueue 89 = .ok (.bipush (-6), 2) := by decide +kernel
theorem dX7_openQueue_91 : decode cX7_openQueue 91 = .ok (.ireturn, 1) := by decide +kernel
theorem dX7_openSet_0 : decode cX7_openSet 0 = .ok (.iload_n 2, 1) := by decide +kernel
theorem dX7_openSet_1 : decode cX7_openSet 1 = .ok (.ldc 241, 2) := by decide +kernel
theorem dX7_openSet_3 : decode cX7_openSet 3 = .ok (.invokestatic 34, 3) := by decide +kernel
theorem dX7_openSet_6 : decode cX7_openSet 6 = .ok (.ifCond .eq 23, 3) := by decide +kernel
theorem dX7_openSet_9 : decode cX7_openSet 9 = .ok (.iload_n 3, 1) := by decide +kernel
theorem dX7_openSet_10 : decode cX7_openSet 10 = .ok (.bipush 8, 2) := by decide +kernel
theorem dX7_openSet_12 : decode cX7_openSet 12 = .ok (.invokestatic 34, 3) := by decide +kernel
theorem dX7_openSet_15 : decode cX7_openSet 15 = .ok (.ifCond .eq 14, 3) := by decide +kernel
theorem dX7_openSet_18 : decode cX7_openSet 18 = .ok (.iload 4, 2) := by decide +kernel
theorem dX7_openSet_20 : decode cX7_openSet 20 = .ok (.sipush 2047, 3) := by decide +kernel
theorem dX7_openSet_23 : decode cX7_openSet 23 = .ok (.invokestatic 34, 3) := by decide +kernel
theorem dX7_openSet_26 : decode cX7_openSet 26 = .ok (.ifCond .ne 6, 3) := by decide +kernel
theorem dX7_openSet_29 : decode cX7_openSet 29 = .ok (.bipush (-4), 2) := by decide +kernel
theorem dX7_openSet_31 : decode cX7_openSet 31 = .ok (.ireturn, 1) := by decide +kernel
theorem dX7_openSet_32 : decode cX7_openSet 32 = .ok (.aload_n 0, 1) := by decide +kernel
theorem dX7_openSet_33 : decode cX7_openSet 33 = .ok (.getfield 25, 3) := by decide +kernel
theorem dX7_openSet_36 : decode cX7_openSet 36 = .ok (.iload_n 2, 1) := by decide +kernel
theorem dX7_openSet_37 : decode cX7_openSet 37 = .ok (.invokestatic 242, 3) := by decide +kernel
theorem dX7_openSet_40 : decode cX7_openSet 40 = .ok (.astore 5, 2) := by decide +kernel
theorem dX7_openSet_42 : decode cX7_openSet 42 = .ok (.aload 5, 2) := by decide +kernel
theorem dX7_openSet_44 : decode cX7_openSet 44 = .ok (.ifnonnull 27, 3) := by decide +kernel
theorem dX7_openSet_47 : decode cX7_openSet 47 = .ok (.iload_n 2, 1) := by decide +kernel
theorem dX7_openSet_48 : decode cX7_openSet 48 = .ok (.iload 4, 2) := by decide +kernel
theorem dX7_openSet_50 : decode cX7_openSet 50 = .ok (.invokestatic 245, 3) := by decide +kernel
theorem dX7_openSet_53 : decode cX7_openSet 53 = .ok (.ifCond .eq 15, 3) := by decide +kernel
theorem dX7_openSet_56 : decode cX7_openSet 56 = .ok (.aload_n 0, 1) := by decide +kernel
theorem dX7_openSet_57 : decode cX7_openSet 57 = .ok (.aload_n 1, 1) := by decide +kernel
theorem dX7_openSet_58 : decode cX7_openSet 58 = .ok (.iload_n 2, 1) := by decide +kernel
theorem dX7_openSet_59 : decode cX7_openSet 59 = .ok (.iload_n 3, 1) := by decide +kernel
theorem dX7_openSet_60 : decode cX7_openSet 60 = .ok (.iload 4, 2) := by decide +kernel
theorem dX7_openSet_62 : decode cX7_openSet 62 = .ok (.invokevirtual 261, 3) := by decide +kernel
theorem dX7_openSet_65 : decode cX7_openSet 65 = .ok (.goto 5, 3) := by decide +kernel
theorem dX7_openSet_68 : decode cX7_openSet 68 = .ok (.bipush (-8), 2) := by decide +kernel
theorem dX7_openSet_70 : decode cX7_openSet 70 = .ok (.ireturn, 1) := by decide +kernel
theorem dX7_openSet_71 : decode cX7_openSet 71 = .ok (.iload 4, 2) := by decide +kernel
theorem dX7_openSet_73 : decode cX7_openSet 73 = .ok (.invokestatic 251, 3) := by decide +kernel
theorem dX7_openSet_76 : decode cX7_openSet 76 = .ok (.ifCond .eq 6, 3) := by decide +kernel
theorem dX7_openSet_79 : decode cX7_openSet 79 = .ok (.bipush (-7), 2) := by decide +kernel
theorem dX7_openSet_81 : decode cX7_openSet 81 = .ok (.ireturn, 1) := by decide +kernel
theorem dX7_openSet_82 : decode cX7_openSet 82 = .ok (.aload 5, 2) := by decide +kernel
theorem dX7_openSet_84 : decode cX7_openSet 84 = .ok (.instanceof 64, 3) := by decide +kernel
theorem dX7_openSet_87 : decode cX7_openSet 87 = .ok (.ifCond .eq 22, 3) := by decide +kernel
theorem dX7_openSet_90 : decode cX7_openSet 90 = .ok (.aload 5, 2) := by decide +kernel
theorem dX7_openSet_92 : decode cX7_openSet 92 = .ok (.checkcast 64, 3) := by decide +kernel
theorem dX7_openSet_95 : decode cX7_openSet 95 = .ok (.astore 6, 2) := by decide +kernel
theorem dX7_openSet_97 : decode cX7_openSet 97 = .ok (.iload_n 3, 1) := by decide +kernel
theorem dX7_openSet_98 : decode cX7_openSet 98 = .ok (.aload 6, 2) := by decide +kernel
theorem dX7_openSet_100 : decode cX7_openSet 100 = .ok (.getfield 176, 3) := by decide +kernel
theorem dX7_openSet_103 : decode cX7_openSet 103 = .ok (.if_icmp .le 6, 3) := by decide +kernel
theorem dX7_openSet_106 : decode cX7_openSet 106 = .ok (.bipush (-5), 2) := by decide +kernel
theorem dX7_openSet_108 : decode cX7_openSet 108 = .ok (.ireturn, 1) := by decide +kernel
theorem dX7_openSet_109 : decode cX7_openSet 109 = .ok (.aload 5, 2) := by decide +kernel
theorem dX7_openSet_111 : decode cX7_openSet 111 = .ok (.aload_n 1, 1) := by decide +kernel
theorem dX7_openSet_112 : decode cX7_openSet 112 = .ok (.iload 4, 2) := by decide +kernel
theorem dX7_openSet_114 : decode cX7_openSet 114 = .ok (.invokestatic 254, 3) := by decide +kernel
theorem dX7_openSet_117 : decode cX7_openSet 117 = .ok (.invokevirtual 257, 3) := by decide +kernel
theorem dX7_openSet_120 : decode cX7_openSet 120 = .ok (.ifCond .eq 11, 3) := by decide +kernel
theorem dX7_openSet_123 : decode cX7_openSet 123 = .ok (.aload 5, 2) := by decide +kernel
theorem dX7_openSet_125 : decode cX7_openSet 125 = .ok (.getfield 216, 3) := by decide +kernel
theorem dX7_openSet_128 : decode cX7_openSet 128 = .ok (.goto 5, 3) := by decide +kernel
theorem dX7_openSet_131 : decode cX7_openSet 131 = .ok (.bipush (-6), 2) := by decide +kernel
theorem dX7_openSet_133 : decode cX7_openSet 133 = .ok (.ireturn, 1) := by decide +kernel
theorem dX7_isMade_0 : decode cX7_isMade 0 = .ok (.iload_n 0, 1) := by decide +kernel
theorem dX7_isMade_1 : decode cX7_isMade 1 = .ok (.ifCond .eq 11, 3) := by decide +kernel
theorem dX7_isMade_4 : decode cX7_isMade 4 = .ok (.iload_n 1, 1) := by decide +kernel
theorem dX7_isMade_5 : decode cX7_isMade 5 = .ok (.sipush 512, 3) := by decide +kernel
theorem dX7_isMade_8 : decode cX7_isMade 8 = .ok (.iand, 1) := by decide +kernel
theorem dX7_isMade_9 : decode cX7_isMade 9 = .ok (.ifCond .eq 7, 3) := by decide +kernel
theorem dX7_isMade_12 : decode cX7_isMade 12 = .ok (.iconst 1, 1) := by decide +kernel
theorem dX7_isMade_13 : decode cX7_isMade 13 = .ok (.goto 4, 3) := by decide +kernel
theorem dX7_isMade_16 : decode cX7_isMade 16 = .ok (.iconst 0, 1) := by decide +kernel
theorem dX7_isMade_17 : decode cX7_isMade 17 = .ok (.ireturn, 1) := by decide +kernel
theorem dX7_isOnlyNew_0 : decode cX7_isOnlyNew 0 = .ok (.iload_n 0, 1) := by decide +kernel
theorem dX7_isOnlyNew_1 : decode cX7_isOnlyNew 1 = .ok (.sipush 512, 3) := by decide +kernel
theorem dX7_isOnlyNew_4 : decode cX7_isOnlyNew 4 = .ok (.iand, 1) := by decide +kernel
theorem dX7_isOnlyNew_5 : decode cX7_isOnlyNew 5 = .ok (.ifCond .eq 15, 3) := by decide +kernel
theorem dX7_isOnlyNew_8 : decode cX7_isOnlyNew 8 = .ok (.iload_n 0, 1) := by decide +kernel
theorem dX7_isOnlyNew_9 : decode cX7_isOnlyNew 9 = .ok (.sipush 1024, 3) := by decide +kernel
theorem dX7_isOnlyNew_12 : decode cX7_isOnlyNew 12 = .ok (.iand, 1) := by decide +kernel
theorem dX7_isOnlyNew_13 : decode cX7_isOnlyNew 13 = .ok (.ifCond .eq 7, 3) := by decide +kernel
theorem dX7_isOnlyNew_16 : decode cX7_isOnlyNew 16 = .ok (.iconst 1, 1) := by decide +kernel
theorem dX7_isOnlyNew_17 : decode cX7_isOnlyNew 17 = .ok (.goto 4, 3) := by decide +kernel
theorem dX7_isOnlyNew_20 : decode cX7_isOnlyNew 20 = .ok (.iconst 0, 1) := by decide +kernel
theorem dX7_isOnlyNew_21 : decode cX7_isOnlyNew 21 = .ok (.ireturn, 1) := by decide +kernel
theorem dX7_wanted_0 : decode cX7_wanted 0 = .ok (.iload_n 0, 1) := by decide +kernel
theorem dX7_wanted_1 : decode cX7_wanted 1 = .ok (.bipush 6, 2) := by decide +kernel
theorem dX7_wanted_3 : decode cX7_wanted 3 = .ok (.ishr, 1) := by decide +kernel
theorem dX7_wanted_4 : decode cX7_wanted 4 = .ok (.iload_n 0, 1) := by decide +kernel
theorem dX7_wanted_5 : decode cX7_wanted 5 = .ok (.iconst 3, 1) := by decide +kernel
theorem dX7_wanted_6 : decode cX7_wanted 6 = .ok (.ishr, 1) := by decide +kernel
theorem dX7_wanted_7 : decode cX7_wanted 7 = .ok (.ior, 1) := by decide +kernel
theorem dX7_wanted_8 : decode cX7_wanted 8 = .ok (.iload_n 0, 1) := by decide +kernel
theorem dX7_wanted_9 : decode cX7_wanted 9 = .ok (.ior, 1) := by decide +kernel
theorem dX7_wanted_10 : decode cX7_wanted 10 = .ok (.bipush 7, 2) := by decide +kernel
theorem dX7_wanted_12 : decode cX7_wanted 12 = .ok (.iand, 1) := by decide +kernel
theorem dX7_wanted_13 : decode cX7_wanted 13 = .ok (.ireturn, 1) := by decide +kernel
theorem dX7_makeQueue_0 : decode cX7_makeQueue 0 = .ok (.aload_n 0, 1) := by decide +kernel
theorem dX7_makeQueue_1 : decode cX7_makeQueue 1 = .ok (.getfield 21, 3) := by decide +kernel
theorem dX7_makeQueue_4 : decode cX7_makeQueue 4 = .ok (.invokestatic 264, 3) := by decide +kernel
theorem dX7_makeQueue_7 : decode cX7_makeQueue 7 = .ok (.istore 4, 2) := by decide +kernel
theorem dX7_makeQueue_9 : decode cX7_makeQueue 9 = .ok (.iload 4, 2) := by decide +kernel
theorem dX7_makeQueue_11 : decode cX7_makeQueue 11 = .ok (.ifCond .lt 10, 3) := by decide +kernel
theorem dX7_makeQueue_14 : decode cX7_makeQueue 14 = .ok (.iload 4, 2) := by decide +kernel
theorem dX7_makeQueue_16 : decode cX7_makeQueue 16 = .ok (.bipush 12, 2) := by decide +kernel
theorem dX7_makeQueue_18 : decode cX7_makeQueue 18 = .ok (.if_icmp .lt 6, 3) := by decide +kernel
theorem dX7_makeQueue_21 : decode cX7_makeQueue 21 = .ok (.bipush (-9), 2) := by decide +kernel
theorem dX7_makeQueue_23 : decode cX7_makeQueue 23 = .ok (.ireturn, 1) := by decide +kernel
theorem dX7_makeQueue_24 : decode cX7_makeQueue 24 = .ok (.aload_n 0, 1) := by decide +kernel
theorem dX7_makeQueue_25 : decode cX7_makeQueue 25 = .ok (.getfield 21, 3) := by decide +kernel
theorem dX7_makeQueue_28 : decode cX7_makeQueue 28 = .ok (.iload 4, 2) := by decide +kernel
theorem dX7_makeQueue_30 : decode cX7_makeQueue 30 = .ok (.aaload, 1) := by decide +kernel
theorem dX7_makeQueue_31 : decode cX7_makeQueue 31 = .ok (.astore 7, 2) := by decide +kernel
theorem dX7_makeQueue_33 : decode cX7_makeQueue 33 = .ok (.aload 7, 2) := by decide +kernel
theorem dX7_makeQueue_35 : decode cX7_makeQueue 35 = .ok (.instanceof 142, 3) := by decide +kernel
theorem dX7_makeQueue_38 : decode cX7_makeQueue 38 = .ok (.ifCond .eq 15, 3) := by decide +kernel
theorem dX7_makeQueue_41 : decode cX7_makeQueue 41 = .ok (.aload 7, 2) := by decide +kernel
theorem dX7_makeQueue_43 : decode cX7_makeQueue 43 = .ok (.checkcast 142, 3) := by decide +kernel
theorem dX7_makeQueue_46 : decode cX7_makeQueue 46 = .ok (.astore 6, 2) := by decide +kernel
theorem dX7_makeQueue_48 : decode cX7_makeQueue 48 = .ok (.aload 6, 2) := by decide +kernel
theorem dX7_makeQueue_50 : decode cX7_makeQueue 50 = .ok (.goto 12, 3) := by decide +kernel
theorem dX7_makeQueue_53 : decode cX7_makeQueue 53 = .ok (.new 142, 3) := by decide +kernel
theorem dX7_makeQueue_56 : decode cX7_makeQueue 56 = .ok (.dup, 1) := by decide +kernel
theorem dX7_makeQueue_57 : decode cX7_makeQueue 57 = .ok (.iload 4, 2) := by decide +kernel
theorem dX7_makeQueue_59 : decode cX7_makeQueue 59 = .ok (.invokespecial 267, 3) := by decide +kernel
theorem dX7_makeQueue_62 : decode cX7_makeQueue 62 = .ok (.astore 5, 2) := by decide +kernel
theorem dX7_makeQueue_64 : decode cX7_makeQueue 64 = .ok (.aload_n 0, 1) := by decide +kernel
theorem dX7_makeQueue_65 : decode cX7_makeQueue 65 = .ok (.getfield 21, 3) := by decide +kernel
theorem dX7_makeQueue_68 : decode cX7_makeQueue 68 = .ok (.iload 4, 2) := by decide +kernel
theorem dX7_makeQueue_70 : decode cX7_makeQueue 70 = .ok (.aload 5, 2) := by decide +kernel
theorem dX7_makeQueue_72 : decode cX7_makeQueue 72 = .ok (.aastore, 1) := by decide +kernel
theorem dX7_makeQueue_73 : decode cX7_makeQueue 73 = .ok (.aload 5, 2) := by decide +kernel
theorem dX7_makeQueue_75 : decode cX7_makeQueue 75 = .ok (.aload_n 1, 1) := by decide +kernel
theorem dX7_makeQueue_76 : decode cX7_makeQueue 76 = .ok (.iload_n 2, 1) := by decide +kernel
theorem dX7_makeQueue_77 : decode cX7_makeQueue 77 = .ok (.iload_n 3, 1) := by decide +kernel
theorem dX7_makeQueue_78 : decode cX7_makeQueue 78 = .ok (.sipush 511, 3) := by decide +kernel
theorem dX7_makeQueue_81 : decode cX7_makeQueue 81 = .ok (.iand, 1) := by decide +kernel
theorem dX7_makeQueue_82 : decode cX7_makeQueue 82 = .ok (.invokevirtual 270, 3) := by decide +kernel
theorem dX7_makeQueue_85 : decode cX7_makeQueue 85 = .ok (.aload 5, 2) := by decide +kernel
theorem dX7_makeQueue_87 : decode cX7_makeQueue 87 = .ok (.invokevirtual 274, 3) := by decide +kernel
theorem dX7_makeQueue_90 : decode cX7_makeQueue 90 = .ok (.aload 5, 2) := by decide +kernel
theorem dX7_makeQueue_92 : decode cX7_makeQueue 92 = .ok (.getfield 277, 3) := by decide +kernel
theorem dX7_makeQueue_95 : decode cX7_makeQueue 95 = .ok (.ireturn, 1) := by decide +kernel
theorem dX7_makeSet_0 : decode cX7_makeSet 0 = .ok (.iload_n 3, 1) := by decide +kernel
theorem dX7_makeSet_1 : decode cX7_makeSet 1 = .ok (.ifCond .ne 6, 3) := by decide +kernel
theorem dX7_makeSet_4 : decode cX7_makeSet 4 = .ok (.bipush (-5), 2) := by decide +kernel
theorem dX7_makeSet_6 : decode cX7_makeSet 6 = .ok (.ireturn, 1) := by decide +kernel
theorem dX7_makeSet_7 : decode cX7_makeSet 7 = .ok (.aload_n 0, 1) := by decide +kernel
theorem dX7_makeSet_8 : decode cX7_makeSet 8 = .ok (.getfield 25, 3) := by decide +kernel
theorem dX7_makeSet_11 : decode cX7_makeSet 11 = .ok (.invokestatic 264, 3) := by decide +kernel
theorem dX7_makeSet_14 : decode cX7_makeSet 14 = .ok (.istore 5, 2) := by decide +kernel
theorem dX7_makeSet_16 : decode cX7_makeSet 16 = .ok (.iload 5, 2) := by decide +kernel
theorem dX7_makeSet_18 : decode cX7_makeSet 18 = .ok (.ifCond .lt 10, 3) := by decide +kernel
theorem dX7_makeSet_21 : decode cX7_makeSet 21 = .ok (.iload 5, 2) := by decide +kernel
theorem dX7_makeSet_23 : decode cX7_makeSet 23 = .ok (.bipush 12, 2) := by decide +kernel
theorem dX7_makeSet_25 : decode cX7_makeSet 25 = .ok (.if_icmp .lt 6, 3) := by decide +kernel
theorem dX7_makeSet_28 : decode cX7_makeSet 28 = .ok (.bipush (-9), 2) := by decide +kernel
theorem dX7_makeSet_30 : decode cX7_makeSet 30 = .ok (.ireturn, 1) := by decide +kernel
theorem dX7_makeSet_31 : decode cX7_makeSet 31 = .ok (.aload_n 0, 1) := by decide +kernel
theorem dX7_makeSet_32 : decode cX7_makeSet 32 = .ok (.getfield 25, 3) := by decide +kernel
theorem dX7_makeSet_35 : decode cX7_makeSet 35 = .ok (.iload 5, 2) := by decide +kernel
theorem dX7_makeSet_37 : decode cX7_makeSet 37 = .ok (.aaload, 1) := by decide +kernel
theorem dX7_makeSet_38 : decode cX7_makeSet 38 = .ok (.astore 8, 2) := by decide +kernel
theorem dX7_makeSet_40 : decode cX7_makeSet 40 = .ok (.aload 8, 2) := by decide +kernel
theorem dX7_makeSet_42 : decode cX7_makeSet 42 = .ok (.instanceof 64, 3) := by decide +kernel
theorem dX7_makeSet_45 : decode cX7_makeSet 45 = .ok (.ifCond .eq 15, 3) := by decide +kernel
theorem dX7_makeSet_48 : decode cX7_makeSet 48 = .ok (.aload 8, 2) := by decide +kernel
theorem dX7_makeSet_50 : decode cX7_makeSet 50 = .ok (.checkcast 64, 3) := by decide +kernel
theorem dX7_makeSet_53 : decode cX7_makeSet 53 = .ok (.astore 7, 2) := by decide +kernel
theorem dX7_makeSet_55 : decode cX7_makeSet 55 = .ok (.aload 7, 2) := by decide +kernel
theorem dX7_makeSet_57 : decode cX7_makeSet 57 = .ok (.goto 12, 3) := by decide +kernel
theorem dX7_makeSet_60 : decode cX7_makeSet 60 = .ok (.new 64, 3) := by decide +kernel
theorem dX7_makeSet_63 : decode cX7_makeSet 63 = .ok (.dup, 1) := by decide +kernel
theorem dX7_makeSet_64 : decode cX7_makeSet 64 = .ok (.iload 5, 2) := by decide +kernel
theorem dX7_makeSet_66 : decode cX7_makeSet 66 = .ok (.invokespecial 278, 3) := by decide +kernel
theorem dX7_makeSet_69 : decode cX7_makeSet 69 = .ok (.astore 6, 2) := by decide +kernel
theorem dX7_makeSet_71 : decode cX7_makeSet 71 = .ok (.aload_n 0, 1) := by decide +kernel
theorem dX7_makeSet_72 : decode cX7_makeSet 72 = .ok (.getfield 25, 3) := by decide +kernel
theorem dX7_makeSet_75 : decode cX7_makeSet 75 = .ok (.iload 5, 2) := by decide +kernel
theorem dX7_makeSet_77 : decode cX7_makeSet 77 = .ok (.aload 6, 2) := by decide +kernel
theorem dX7_makeSet_79 : decode cX7_makeSet 79 = .ok (.aastore, 1) := by decide +kernel
theorem dX7_makeSet_80 : decode cX7_makeSet 80 = .ok (.aload 6, 2) := by decide +kernel
theorem dX7_makeSet_82 : decode cX7_makeSet 82 = .ok (.aload_n 1, 1) := by decide +kernel
theorem dX7_makeSet_83 : decode cX7_makeSet 83 = .ok (.iload_n 2, 1) := by decide +kernel
theorem dX7_makeSet_84 : decode cX7_makeSet 84 = .ok (.iload 4, 2) := by decide +kernel
theorem dX7_makeSet_86 : decode cX7_makeSet 86 = .ok (.sipush 511, 3) := by decide +kernel
theorem dX7_makeSet_89 : decode cX7_makeSet 89 = .ok (.iand, 1) := by decide +kernel
theorem dX7_makeSet_90 : decode cX7_makeSet 90 = .ok (.invokevirtual 279, 3) := by decide +kernel
theorem dX7_makeSet_93 : decode cX7_makeSet 93 = .ok (.aload 6, 2) := by decide +kernel
theorem dX7_makeSet_95 : decode cX7_makeSet 95 = .ok (.iload_n 3, 1) := by decide +kernel
theorem dX7_makeSet_96 : decode cX7_makeSet 96 = .ok (.invokevirtual 280, 3) := by decide +kernel
theorem dX7_makeSet_99 : decode cX7_makeSet 99 = .ok (.aload 6, 2) := by decide +kernel
theorem dX7_makeSet_101 : decode cX7_makeSet 101 = .ok (.getfield 283, 3) := by decide +kernel
theorem dX7_makeSet_104 : decode cX7_makeSet 104 = .ok (.ireturn, 1) := by decide +kernel
theorem dX7_removeThing_0 : decode cX7_removeThing 0 = .ok (.iload_n 2, 1) := by decide +kernel
theorem dX7_removeThing_1 : decode cX7_removeThing 1 = .ok (.iconst 1, 1) := by decide +kernel
theorem dX7_removeThing_2 : decode cX7_removeThing 2 = .ok (.invokestatic 34, 3) := by decide +kernel
theorem dX7_removeThing_5 : decode cX7_removeThing 5 = .ok (.ifCond .ne 6, 3) := by decide +kernel
theorem dX7_removeThing_8 : decode cX7_removeThing 8 = .ok (.bipush (-4), 2) := by decide +kernel
theorem dX7_removeThing_10 : decode cX7_removeThing 10 = .ok (.ireturn, 1) := by decide +kernel
theorem dX7_removeThing_11 : decode cX7_removeThing 11 = .ok (.aload_n 0, 1) := by decide +kernel
theorem dX7_removeThing_12 : decode cX7_removeThing 12 = .ok (.iload_n 2, 1) := by decide +kernel
theorem dX7_removeThing_13 : decode cX7_removeThing 13 = .ok (.iload_n 3, 1) := by decide +kernel
theorem dX7_removeThing_14 : decode cX7_removeThing 14 = .ok (.invokevirtual 284, 3) := by decide +kernel
theorem dX7_removeThing_17 : decode cX7_removeThing 17 = .ok (.astore 4, 2) := by decide +kernel
theorem dX7_removeThing_19 : decode cX7_removeThing 19 = .ok (.aload 4, 2) := by decide +kernel
theorem dX7_removeThing_21 : decode cX7_removeThing 21 = .ok (.ifnonnull 6, 3) := by decide +kernel
theorem dX7_removeThing_24 : decode cX7_removeThing 24 = .ok (.bipush (-5), 2) := by decide +kernel
theorem dX7_removeThing_26 : decode cX7_removeThing 26 = .ok (.ireturn, 1) := by decide +kernel
theorem dX7_removeThing_27 : decode cX7_removeThing 27 = .ok (.aload 4, 2) := by decide +kernel
theorem dX7_removeThing_29 : decode cX7_removeThing 29 = .ok (.aload_n 1, 1) := by decide +kernel
theorem dX7_removeThing_30 : decode cX7_removeThing 30 = .ok (.invokevirtual 288, 3) := by decide +kernel
theorem dX7_removeThing_33 : decode cX7_removeThing 33 = .ok (.ifCond .ne 6, 3) := by decide +kernel
theorem dX7_removeThing_36 : decode cX7_removeThing 36 = .ok (.bipush (-6), 2) := by decide +kernel
theorem dX7_removeThing_38 : decode cX7_removeThing 38 = .ok (.ireturn, 1) := by decide +kernel
theorem dX7_removeThing_39 : decode cX7_removeThing 39 = .ok (.aload 4, 2) := by decide +kernel
theorem dX7_removeThing_41 : decode cX7_removeThing 41 = .ok (.iconst 0, 1) := by decide +kernel
theorem dX7_removeThing_42 : decode cX7_removeThing 42 = .ok (.putfield 209, 3) := by decide +kernel
theorem dX7_removeThing_45 : decode cX7_removeThing 45 = .ok (.aload_n 0, 1) := by decide +kernel
theorem dX7_removeThing_46 : decode cX7_removeThing 46 = .ok (.aload 4, 2) := by decide +kernel
theorem dX7_removeThing_48 : decode cX7_removeThing 48 = .ok (.invokevirtual 292, 3) := by decide +kernel
theorem dX7_removeThing_51 : decode cX7_removeThing 51 = .ok (.iload_n 2, 1) := by decide +kernel
theorem dX7_removeThing_52 : decode cX7_removeThing 52 = .ok (.ifCond .ne 7, 3) := by decide +kernel
theorem dX7_removeThing_55 : decode cX7_removeThing 55 = .ok (.aload_n 0, 1) := by decide +kernel
theorem dX7_removeThing_56 : decode cX7_removeThing 56 = .ok (.invokevirtual 296, 3) := by decide +kernel
theorem dX7_removeThing_59 : decode cX7_removeThing 59 = .ok (.iconst 0, 1) := by decide +kernel
theorem dX7_removeThing_60 : decode cX7_removeThing 60 = .ok (.ireturn, 1) := by decide +kernel
theorem dX7_giveThing_0 : decode cX7_giveThing 0 = .ok (.iload 4, 2) := by decide +kernel
theorem dX7_giveThing_2 : decode cX7_giveThing 2 = .ok (.bipush 99, 2) := by decide +kernel
theorem dX7_giveThing_4 : decode cX7_giveThing 4 = .ok (.invokestatic 34, 3) := by decide +kernel
theorem dX7_giveThing_7 : decode cX7_giveThing 7 = .ok (.ifCond .eq 17, 3) := by decide +kernel
theorem dX7_giveThing_10 : decode cX7_giveThing 10 = .ok (.iload 5, 2) := by decide +kernel
theorem dX7_giveThing_12 : decode cX7_giveThing 12 = .ok (.bipush 99, 2) := by decide +kernel
theorem dX7_giveThing_14 : decode cX7_giveThing 14 = .ok (.invokestatic 34, 3) := by decide +kernel
theorem dX7_giveThing_17 : decode cX7_giveThing 17 = .ok (.ifCond .eq 7, 3) := by decide +kernel
theorem dX7_giveThing_20 : decode cX7_giveThing 20 = .ok (.iconst 1, 1) := by decide +kernel
theorem dX7_giveThing_21 : decode cX7_giveThing 21 = .ok (.goto 4, 3) := by decide +kernel
theorem dX7_giveThing_24 : decode cX7_giveThing 24 = .ok (.iconst 0, 1) := by decide +kernel
theorem dX7_giveThing_25 : decode cX7_giveThing 25 = .ok (.istore 7, 2) := by decide +kernel
theorem dX7_giveThing_27 : decode cX7_giveThing 27 = .ok (.iload_n 2, 1) := by decide +kernel
theorem dX7_giveThing_28 : decode cX7_giveThing 28 = .ok (.iconst 1, 1) := by decide +kernel
theorem dX7_giveThing_29 : decode cX7_giveThing 29 = .ok (.invokestatic 34, 3) := by decide +kernel
theorem dX7_giveThing_32 : decode cX7_giveThing 32 = .ok (.ifCond .eq 19, 3) := by decide +kernel
theorem dX7_giveThing_35 : decode cX7_giveThing 35 = .ok (.iload 7, 2) := by decide +kernel
theorem dX7_giveThing_37 : decode cX7_giveThing 37 = .ok (.ifCond .eq 14, 3) := by decide +kernel
theorem dX7_giveThing_40 : decode cX7_giveThing 40 = .ok (.iload 6, 2) := by decide +kernel
theorem dX7_giveThing_42 : decode cX7_giveThing 42 = .ok (.sipush 511, 3) := by decide +kernel
theorem dX7_giveThing_45 : decode cX7_giveThing 45 = .ok (.invokestatic 34, 3) := by decide +kernel
theorem dX7_giveThing_48 : decode cX7_giveThing 48 = .ok (.ifCond .ne 6, 3) := by decide +kernel
theorem dX7_giveThing_51 : decode cX7_giveThing 51 = .ok (.bipush (-4), 2) := by decide +kernel
theorem dX7_giveThing_53 : decode cX7_giveThing 53 = .ok (.ireturn, 1) := by decide +kernel
theorem dX7_giveThing_54 : decode cX7_giveThing 54 = .ok (.aload_n 0, 1) := by decide +kernel
theorem dX7_giveThing_55 : decode cX7_giveThing 55 = .ok (.iload_n 2, 1) := by decide +kernel
theorem dX7_giveThing_56 : decode cX7_giveThing 56 = .ok (.iload_n 3, 1) := by decide +kernel
theorem dX7_giveThing_57 : decode cX7_giveThing 57 = .ok (.invokevirtual 284, 3) := by decide +kernel
theorem dX7_giveThing_60 : decode cX7_giveThing 60 = .ok (.astore 8, 2) := by decide +kernel
theorem dX7_giveThing_62 : decode cX7_giveThing 62 = .ok (.aload 8, 2) := by decide +kernel
theorem dX7_giveThing_64 : decode cX7_giveThing 64 = .ok (.ifnonnull 6, 3) := by decide +kernel
theorem dX7_giveThing_67 : decode cX7_giveThing 67 = .ok (.bipush (-5), 2) := by decide +kernel
theorem dX7_giveThing_69 : decode cX7_giveThing 69 = .ok (.ireturn, 1) := by decide +kernel
theorem dX7_giveThing_70 : decode cX7_giveThing 70 = .ok (.aload 8, 2) := by decide +kernel
theorem dX7_giveThing_72 : decode cX7_giveThing 72 = .ok (.aload_n 1, 1) := by decide +kernel
theorem dX7_giveThing_73 : decode cX7_giveThing 73 = .ok (.invokevirtual 288, 3) := by decide +kernel
theorem dX7_giveThing_76 : decode cX7_giveThing 76 = .ok (.ifCond .ne 6, 3) := by decide +kernel
theorem dX7_giveThing_79 : decode cX7_giveThing 79 = .ok (.bipush (-6), 2) := by decide +kernel
theorem dX7_giveThing_81 : decode cX7_giveThing 81 = .ok (.ireturn, 1) := by decide +kernel
theorem dX7_giveThing_82 : decode cX7_giveThing 82 = .ok (.aload 8, 2) := by decide +kernel
theorem dX7_giveThing_84 : decode cX7_giveThing 84 = .ok (.iload 4, 2) := by decide +kernel
theorem dX7_giveThing_86 : decode cX7_giveThing 86 = .ok (.putfield 299, 3) := by decide +kernel
theorem dX7_giveThing_89 : decode cX7_giveThing 89 = .ok (.aload 8, 2) := by decide +kernel
theorem dX7_giveThing_91 : decode cX7_giveThing 91 = .ok (.iload 5, 2) := by decide +kernel
theorem dX7_giveThing_93 : decode cX7_giveThing 93 = .ok (.putfield 302, 3) := by decide +kernel
theorem dX7_giveThing_96 : decode cX7_giveThing 96 = .ok (.aload 8, 2) := by decide +kernel
theorem dX7_giveThing_98 : decode cX7_giveThing 98 = .ok (.iload 6, 2) := by decide +kernel
theorem dX7_giveThing_100 : decode cX7_giveThing 100 = .ok (.putfield 305, 3) := by decide +kernel
theorem dX7_giveThing_103 : decode cX7_giveThing 103 = .ok (.iconst 0, 1) := by decide +kernel
theorem dX7_giveThing_104 : decode cX7_giveThing 104 = .ok (.ireturn, 1) := by decide +kernel
theorem dX7_changeRoom_0 : decode cX7_changeRoom 0 = .ok (.iload_n 3, 1) := by decide +kernel
theorem dX7_changeRoom_1 : decode cX7_changeRoom 1 = .ok (.sipush 1000, 3) := by decide +kernel
theorem dX7_changeRoom_4 : decode cX7_changeRoom 4 = .ok (.invokestatic 34, 3) := by decide +kernel
theorem dX7_changeRoom_7 : decode cX7_changeRoom 7 = .ok (.ifCond .ne 6, 3) := by decide +kernel
theorem dX7_changeRoom_10 : decode cX7_changeRoom 10 = .ok (.bipush (-4), 2) := by decide +kernel
theorem dX7_changeRoom_12 : decode cX7_changeRoom 12 = .ok (.ireturn, 1) := by decide +kernel
theorem dX7_changeRoom_13 : decode cX7_changeRoom 13 = .ok (.aload_n 0, 1) := by decide +kernel
theorem dX7_changeRoom_14 : decode cX7_changeRoom 14 = .ok (.iload_n 2, 1) := by decide +kernel
theorem dX7_changeRoom_15 : decode cX7_changeRoom 15 = .ok (.invokevirtual 308, 3) := by decide +kernel
theorem dX7_changeRoom_18 : decode cX7_changeRoom 18 = .ok (.astore 4, 2) := by decide +kernel
theorem dX7_changeRoom_20 : decode cX7_changeRoom 20 = .ok (.aload 4, 2) := by decide +kernel
theorem dX7_changeRoom_22 : decode cX7_changeRoom 22 = .ok (.ifnonnull 6, 3) := by decide +kernel
theorem dX7_changeRoom_25 : decode cX7_changeRoom 25 = .ok (.bipush (-5), 2) := by decide +kernel
theorem dX7_changeRoom_27 : decode cX7_changeRoom 27 = .ok (.ireturn, 1) := by decide +kernel
theorem dX7_changeRoom_28 : decode cX7_changeRoom 28 = .ok (.aload 4, 2) := by decide +kernel
theorem dX7_changeRoom_30 : decode cX7_changeRoom 30 = .ok (.aload_n 1, 1) := by decide +kernel
theorem dX7_changeRoom_31 : decode cX7_changeRoom 31 = .ok (.invokevirtual 311, 3) := by decide +kernel
theorem dX7_changeRoom_34 : decode cX7_changeRoom 34 = .ok (.ifCond .eq 19, 3) := by decide +kernel
theorem dX7_changeRoom_37 : decode cX7_changeRoom 37 = .ok (.iload_n 3, 1) := by decide +kernel
theorem dX7_changeRoom_38 : decode cX7_changeRoom 38 = .ok (.aload 4, 2) := by decide +kernel
theorem dX7_changeRoom_40 : decode cX7_changeRoom 40 = .ok (.getfield 146, 3) := by decide +kernel
theorem dX7_changeRoom_43 : decode cX7_changeRoom 43 = .ok (.if_icmp .le 13, 3) := by decide +kernel
theorem dX7_changeRoom_46 : decode cX7_changeRoom 46 = .ok (.aload_n 1, 1) := by decide +kernel
theorem dX7_changeRoom_47 : decode cX7_changeRoom 47 = .ok (.getfield 312, 3) := by decide +kernel
theorem dX7_changeRoom_50 : decode cX7_changeRoom 50 = .ok (.ifCond .eq 6, 3) := by decide +kernel
theorem dX7_changeRoom_53 : decode cX7_changeRoom 53 = .ok (.bipush (-6), 2) := by decide +kernel
theorem dX7_changeRoom_55 : decode cX7_changeRoom 55 = .ok (.ireturn, 1) := by decide +kernel
theorem dX7_changeRoom_56 : decode cX7_changeRoom 56 = .ok (.aload 4, 2) := by decide +kernel
theorem dX7_changeRoom_58 : decode cX7_changeRoom 58 = .ok (.iload_n 3, 1) := by decide +kernel
theorem dX7_changeRoom_59 : decode cX7_changeRoom 59 = .ok (.putfield 146, 3) := by decide +kernel
theorem dX7_changeRoom_62 : decode cX7_changeRoom 62 = .ok (.aload_n 0, 1) := by decide +kernel
theorem dX7_changeRoom_63 : decode cX7_changeRoom 63 = .ok (.invokevirtual 296, 3) := by decide +kernel
theorem dX7_changeRoom_66 : decode cX7_changeRoom 66 = .ok (.iconst 0, 1) := by decide +kernel
theorem dX7_changeRoom_67 : decode cX7_changeRoom 67 = .ok (.ireturn, 1) := by decide +kernel
theorem dX7_sendFrom_0 : decode cX7_sendFrom 0 = .ok (.lload_n 3, 1) := by decide +kernel
theorem dX7_sendFrom_1 : decode cX7_sendFrom 1 = .ok (.lconst 1, 1) := by decide +kernel
theorem dX7_sendFrom_2 : decode cX7_sendFrom 2 = .ok (.lcmp, 1) := by decide +kernel
theorem dX7_sendFrom_3 : decode cX7_sendFrom 3 = .ok (.ifCond .lt 13, 3) := by decide +kernel
theorem dX7_sendFrom_6 : decode cX7_sendFrom 6 = .ok (.iload 5, 2) := by decide +kernel
theorem dX7_sendFrom_8 : decode cX7_sendFrom 8 = .ok (.bipush 64, 2) := by decide +kernel
theorem dX7_sendFrom_10 : decode cX7_sendFrom 10 = .ok (.invokestatic 34, 3) := by decide +kernel
theorem dX7_sendFrom_13 : decode cX7_sendFrom 13 = .ok (.ifCond .ne 6, 3) := by decide +kernel
theorem dX7_sendFrom_16 : decode cX7_sendFrom 16 = .ok (.bipush (-4), 2) := by decide +kernel
theorem dX7_sendFrom_18 : decode cX7_sendFrom 18 = .ok (.ireturn, 1) := by decide +kernel
theorem dX7_sendFrom_19 : decode cX7_sendFrom 19 = .ok (.aload_n 0, 1) := by decide +kernel
theorem dX7_sendFrom_20 : decode cX7_sendFrom 20 = .ok (.iload_n 2, 1) := by decide +kernel
theorem dX7_sendFrom_21 : decode cX7_sendFrom 21 = .ok (.invokevirtual 308, 3) := by decide +kernel
theorem dX7_sendFrom_24 : decode cX7_sendFrom 24 = .ok (.astore 7, 2) := by decide +kernel
theorem dX7_sendFrom_26 : decode cX7_sendFrom 26 = .ok (.aload 7, 2) := by decide +kernel
theorem dX7_sendFrom_28 : decode cX7_sendFrom 28 = .ok (.ifnull 13, 3) := by decide +kernel
theorem dX7_sendFrom_31 : decode cX7_sendFrom 31 = .ok (.iload 5, 2) := by decide +kernel
theorem dX7_sendFrom_33 : decode cX7_sendFrom 33 = .ok (.aload 7, 2) := by decide +kernel
theorem dX7_sendFrom_35 : decode cX7_sendFrom 35 = .ok (.getfield 146, 3) := by decide +kernel
theorem dX7_sendFrom_38 : decode cX7_sendFrom 38 = .ok (.if_icmp .le 6, 3) := by decide +kernel
theorem dX7_sendFrom_41 : decode cX7_sendFrom 41 = .ok (.bipush (-5), 2) := by decide +kernel
theorem dX7_sendFrom_43 : decode cX7_sendFrom 43 = .ok (.ireturn, 1) := by decide +kernel
theorem dX7_sendFrom_44 : decode cX7_sendFrom 44 = .ok (.aload 7, 2) := by decide +kernel
theorem dX7_sendFrom_46 : decode cX7_sendFrom 46 = .ok (.aload_n 1, 1) := by decide +kernel
theorem dX7_sendFrom_47 : decode cX7_sendFrom 47 = .ok (.iconst 2, 1) := by decide +kernel
theorem dX7_sendFrom_48 : decode cX7_sendFrom 48 = .ok (.invokevirtual 315, 3) := by decide +kernel
theorem dX7_sendFrom_51 : decode cX7_sendFrom 51 = .ok (.ifCond .ne 6, 3) := by decide +kernel
theorem dX7_sendFrom_54 : decode cX7_sendFrom 54 = .ok (.bipush (-6), 2) := by decide +kernel
theorem dX7_sendFrom_56 : decode cX7_sendFrom 56 = .ok (.ireturn, 1) := by decide +kernel
theorem dX7_sendFrom_57 : decode cX7_sendFrom 57 = .ok (.aload_n 1, 1) := by decide +kernel
theorem dX7_sendFrom_58 : decode cX7_sendFrom 58 = .ok (.getfield 316, 3) := by decide +kernel
theorem dX7_sendFrom_61 : decode cX7_sendFrom 61 = .ok (.lload_n 3, 1) := by decide +kernel
theorem dX7_sendFrom_62 : decode cX7_sendFrom 62 = .ok (.iload 5, 2) := by decide +kernel
theorem dX7_sendFrom_64 : decode cX7_sendFrom 64 = .ok (.aload_n 1, 1) := by decide +kernel
theorem dX7_sendFrom_65 : decode cX7_sendFrom 65 = .ok (.getfield 76, 3) := by decide +kernel
theorem dX7_sendFrom_68 : decode cX7_sendFrom 68 = .ok (.invokevirtual 320, 3) := by decide +kernel
theorem dX7_sendFrom_71 : decode cX7_sendFrom 71 = .ok (.aload_n 0, 1) := by decide +kernel
theorem dX7_sendFrom_72 : decode cX7_sendFrom 72 = .ok (.aload 7, 2) := by decide +kernel
theorem dX7_sendFrom_74 : decode cX7_sendFrom 74 = .ok (.aload_n 1, 1) := by decide +kernel
theorem dX7_sendFrom_75 : decode cX7_sendFrom 75 = .ok (.getfield 316, 3) := by decide +kernel
theorem dX7_sendFrom_78 : decode cX7_sendFrom 78 = .ok (.invokevirtual 324, 3) := by decide +kernel
theorem dX7_sendFrom_81 : decode cX7_sendFrom 81 = .ok (.ifCond .eq 5, 3) := by decide +kernel
theorem dX7_sendFrom_84 : decode cX7_sendFrom 84 = .ok (.iconst 0, 1) := by decide +kernel
theorem dX7_sendFrom_85 : decode cX7_sendFrom 85 = .ok (.ireturn, 1) := by decide +kernel
theorem dX7_sendFrom_86 : decode cX7_sendFrom 86 = .ok (.aload_n 0, 1) := by decide +kernel
theorem dX7_sendFrom_87 : decode cX7_sendFrom 87 = .ok (.aload 7, 2) := by decide +kernel
theorem dX7_sendFrom_89 : decode cX7_sendFrom 89 = .ok (.iload 5, 2) := by decide +kernel
theorem dX7_sendFrom_91 : decode cX7_sendFrom 91 = .ok (.invokevirtual 328, 3) := by decide +kernel
theorem dX7_sendFrom_94 : decode cX7_sendFrom 94 = .ok (.ifCond .eq 14, 3) := by decide +kernel
theorem dX7_sendFrom_97 : decode cX7_sendFrom 97 = .ok (.aload 7, 2) := by decide +kernel
theorem dX7_sendFrom_99 : decode cX7_sendFrom 99 = .ok (.aload_n 1, 1) := by decide +kernel
theorem dX7_sendFrom_100 : decode cX7_sendFrom 100 = .ok (.getfield 316, 3) := by decide +kernel
theorem dX7_sendFrom_103 : decode cX7_sendFrom 103 = .ok (.invokevirtual 332, 3) := by decide +kernel
theorem dX7_sendFrom_106 : decode cX7_sendFrom 106 = .ok (.iconst 0, 1) := by decide +kernel
theorem dX7_sendFrom_107 : decode cX7_sendFrom 107 = .ok (.ireturn, 1) := by decide +kernel
theorem dX7_sendFrom_108 : decode cX7_sendFrom 108 = .ok (.iload 6, 2) := by decide +kernel
theorem dX7_sendFrom_110 : decode cX7_sendFrom 110 = .ok (.ifCond .eq 6, 3) := by decide +kernel
theorem dX7_sendFrom_113 : decode cX7_sendFrom 113 = .ok (.bipush (-11), 2) := by decide +kernel
theorem dX7_sendFrom_115 : decode cX7_sendFrom 115 = .ok (.ireturn, 1) := by decide +kernel
theorem dX7_sendFrom_116 : decode cX7_sendFrom 116 = .ok (.aload_n 0, 1) := by decide +kernel
theorem dX7_sendFrom_117 : decode cX7_sendFrom 117 = .ok (.aload_n 1, 1) := by decide +kernel
theorem dX7_sendFrom_118 : decode cX7_sendFrom 118 = .ok (.iconst 1, 1) := by decide +kernel
theorem dX7_sendFrom_119 : decode cX7_sendFrom 119 = .ok (.aload 7, 2) := by decide +kernel
theorem dX7_sendFrom_121 : decode cX7_sendFrom 121 = .ok (.invokevirtual 336, 3) := by decide +kernel
theorem dX7_sendFrom_124 : decode cX7_sendFrom 124 = .ok (.bipush (-10), 2) := by decide +kernel
theorem dX7_sendFrom_126 : decode cX7_sendFrom 126 = .ok (.ireturn, 1) := by decide +kernel
theorem dX7_fits_0 : decode cX7_fits 0 = .ok (.aload_n 1, 1) := by decide +kernel
theorem dX7_fits_1 : decode cX7_fits 1 = .ok (.iload_n 2, 1) := by decide +kernel
theorem dX7_fits_2 : decode cX7_fits 2 = .ok (.invokevirtual 340, 3) := by decide +kernel
theorem dX7_fits_5 : decode cX7_fits 5 = .ok (.ifCond .eq 19, 3) := by decide +kernel
theorem dX7_fits_8 : decode cX7_fits 8 = .ok (.aload_n 0, 1) := by decide +kernel
theorem dX7_fits_9 : decode cX7_fits 9 = .ok (.invokevirtual 203, 3) := by decide +kernel
theorem dX7_fits_12 : decode cX7_fits 12 = .ok (.iload_n 2, 1) := by decide +kernel
theorem dX7_fits_13 : decode cX7_fits 13 = .ok (.iadd, 1) := by decide +kernel
theorem dX7_fits_14 : decode cX7_fits 14 = .ok (.sipush 1000, 3) := by decide +kernel
theorem dX7_fits_17 : decode cX7_fits 17 = .ok (.if_icmp .gt 7, 3) := by decide +kernel
theorem dX7_fits_20 : decode cX7_fits 20 = .ok (.iconst 1, 1) := by decide +kernel
theorem dX7_fits_21 : decode cX7_fits 21 = .ok (.goto 4, 3) := by decide +kernel
theorem dX7_fits_24 : decode cX7_fits 24 = .ok (.iconst 0, 1) := by decide +kernel
theorem dX7_fits_25 : decode cX7_fits 25 = .ok (.ireturn, 1) := by decide +kernel
theorem dX7_handToTaker_0 : decode cX7_handToTaker 0 = .ok (.iconst 0, 1) := by decide +kernel
theorem dX7_handToTaker_1 : decode cX7_handToTaker 1 = .ok (.istore_n 3, 1) := by decide +kernel
theorem dX7_handToTaker_2 : decode cX7_handToTaker 2 = .ok (.iconst 0, 1) := by decide +kernel
theorem dX7_handToTaker_3 : decode cX7_handToTaker 3 = .ok (.istore 4, 2) := by decide +kernel
theorem dX7_handToTaker_5 : decode cX7_handToTaker 5 = .ok (.iload 4, 2) := by decide +kernel
theorem dX7_handToTaker_7 : decode cX7_handToTaker 7 = .ok (.bipush 16, 2) := by decide +kernel
theorem dX7_handToTaker_9 : decode cX7_handToTaker 9 = .ok (.if_icmp .ge 89, 3) := by decide +kernel
theorem dX7_handToTaker_12 : decode cX7_handToTaker 12 = .ok (.aload_n 0, 1) := by decide +kernel
theorem dX7_handToTaker_13 : decode cX7_handToTaker 13 = .ok (.iload_n 3, 1) := by decide +kernel
theorem dX7_handToTaker_14 : decode cX7_handToTaker 14 = .ok (.invokevirtual 230, 3) := by decide +kernel
theorem dX7_handToTaker_17 : decode cX7_handToTaker 17 = .ok (.astore 5, 2) := by decide +kernel
theorem dX7_handToTaker_19 : decode cX7_handToTaker 19 = .ok (.aload 5, 2) := by decide +kernel
theorem dX7_handToTaker_21 : decode cX7_handToTaker 21 = .ok (.ifnull 28, 3) := by decide +kernel
theorem dX7_handToTaker_24 : decode cX7_handToTaker 24 = .ok (.aload 5, 2) := by decide +kernel
theorem dX7_handToTaker_26 : decode cX7_handToTaker 26 = .ok (.iconst 2, 1) := by decide +kernel
theorem dX7_handToTaker_27 : decode cX7_handToTaker 27 = .ok (.aload_n 1, 1) := by decide +kernel
theorem dX7_handToTaker_28 : decode cX7_handToTaker 28 = .ok (.invokevirtual 233, 3) := by decide +kernel
theorem dX7_handToTaker_31 : decode cX7_handToTaker 31 = .ok (.ifCond .eq 18, 3) := by decide +kernel
theorem dX7_handToTaker_34 : decode cX7_handToTaker 34 = .ok (.aload 5, 2) := by decide +kernel
theorem dX7_handToTaker_36 : decode cX7_handToTaker 36 = .ok (.getfield 343, 3) := by decide +kernel
theorem dX7_handToTaker_39 : decode cX7_handToTaker 39 = .ok (.aload_n 2, 1) := by decide +kernel
theorem dX7_handToTaker_40 : decode cX7_handToTaker 40 = .ok (.getfield 165, 3) := by decide +kernel
theorem dX7_handToTaker_43 : decode cX7_handToTaker 43 = .ok (.invokevirtual 347, 3) := by decide +kernel
theorem dX7_handToTaker_46 : decode cX7_handToTaker 46 = .ok (.ifCond .ne 9, 3) := by decide +kernel
theorem dX7_handToTaker_49 : decode cX7_handToTaker 49 = .ok (.iinc 3 1, 3) := by decide +kernel
theorem dX7_handToTaker_52 : decode cX7_handToTaker 52 = .ok (.goto 40, 3) := by decide +kernel
theorem dX7_handToTaker_55 : decode cX7_handToTaker 55 = .ok (.aload 5, 2) := by decide +kernel
theorem dX7_handToTaker_57 : decode cX7_handToTaker 57 = .ok (.getfield 343, 3) := by decide +kernel
theorem dX7_handToTaker_60 : decode cX7_handToTaker 60 = .ok (.aload_n 2, 1) := by decide +kernel
theorem dX7_handToTaker_61 : decode cX7_handToTaker 61 = .ok (.invokevirtual 353, 3) := by decide +kernel
theorem dX7_handToTaker_64 : decode cX7_handToTaker 64 = .ok (.ifCond .eq 14, 3) := by decide +kernel
theorem dX7_handToTaker_67 : decode cX7_handToTaker 67 = .ok (.aload_n 0, 1) := by decide +kernel
theorem dX7_handToTaker_68 : decode cX7_handToTaker 68 = .ok (.aload 5, 2) := by decide +kernel
theorem dX7_handToTaker_70 : decode cX7_handToTaker 70 = .ok (.bipush (-13), 2) := by decide +kernel
theorem dX7_handToTaker_72 : decode cX7_handToTaker 72 = .ok (.invokevirtual 52, 3) := by decide +kernel
theorem dX7_handToTaker_75 : decode cX7_handToTaker 75 = .ok (.goto 17, 3) := by decide +kernel
theorem dX7_handToTaker_78 : decode cX7_handToTaker 78 = .ok (.aload_n 0, 1) := by decide +kernel
theorem dX7_handToTaker_79 : decode cX7_handToTaker 79 = .ok (.aload 5, 2) := by decide +kernel
theorem dX7_handToTaker_81 : decode cX7_handToTaker 81 = .ok (.aload 5, 2) := by decide +kernel
theorem dX7_handToTaker_83 : decode cX7_handToTaker 83 = .ok (.aload_n 2, 1) := by decide +kernel
theorem dX7_handToTaker_84 : decode cX7_handToTaker 84 = .ok (.invokevirtual 357, 3) := by decide +kernel
theorem dX7_handToTaker_87 : decode cX7_handToTaker 87 = .ok (.invokevirtual 52, 3) := by decide +kernel
theorem dX7_handToTaker_90 : decode cX7_handToTaker 90 = .ok (.iconst 1, 1) := by decide +kernel
theorem dX7_handToTaker_91 : decode cX7_handToTaker 91 = .ok (.ireturn, 1) := by decide +kernel
theorem dX7_handToTaker_92 : decode cX7_handToTaker 92 = .ok (.iinc 4 1, 3) := by decide +kernel
theorem dX7_handToTaker_95 : decode cX7_handToTaker 95 = .ok (.goto (-90), 3) := by decide +kernel
theorem dX7_handToTaker_98 : decode cX7_handToTaker 98 = .ok (.iconst 0, 1) := by decide +kernel
theorem dX7_handToTaker_99 : decode cX7_handToTaker 99 = .ok (.ireturn, 1) := by decide +kernel
theorem dX7_admitSenders_0 : decode cX7_admitSenders 0 = .ok (.iconst 1, 1) := by decide +kernel
theorem dX7_admitSenders_1 : decode cX7_admitSenders 1 = .ok (.istore_n 1, 1) := by decide +kernel
theorem dX7_admitSenders_2 : decode cX7_admitSenders 2 = .ok (.iconst 0, 1) := by decide +kernel
theorem dX7_admitSenders_3 : decode cX7_admitSenders 3 = .ok (.istore_n 2, 1) := by decide +kernel
theorem dX7_admitSenders_4 : decode cX7_admitSenders 4 = .ok (.iload_n 2, 1) := by decide +kernel
theorem dX7_admitSenders_5 : decode cX7_admitSenders 5 = .ok (.bipush 16, 2) := by decide +kernel
theorem dX7_admitSenders_7 : decode cX7_admitSenders 7 = .ok (.if_icmp .ge 18, 3) := by decide +kernel
theorem dX7_admitSenders_10 : decode cX7_admitSenders 10 = .ok (.iload_n 1, 1) := by decide +kernel
theorem dX7_admitSenders_11 : decode cX7_admitSenders 11 = .ok (.ifCond .eq 14, 3) := by decide +kernel
theorem dX7_admitSenders_14 : decode cX7_admitSenders 14 = .ok (.aload_n 0, 1) := by decide +kernel
theorem dX7_admitSenders_15 : decode cX7_admitSenders 15 = .ok (.invokevirtual 361, 3) := by decide +kernel
theorem dX7_admitSenders_18 : decode cX7_admitSenders 18 = .ok (.istore_n 1, 1) := by decide +kernel
theorem dX7_admitSenders_19 : decode cX7_admitSenders 19 = .ok (.iinc 2 1, 3) := by decide +kernel
theorem dX7_admitSenders_22 : decode cX7_admitSenders 22 = .ok (.goto (-18), 3) := by decide +kernel
theorem dX7_admitSenders_25 : decode cX7_admitSenders 25 = .ok (.return_, 1) := by decide +kernel
theorem dX7_admitFirstSender_0 : decode cX7_admitFirstSender 0 = .ok (.iconst 0, 1) := by decide +kernel
theorem dX7_admitFirstSender_1 : decode cX7_admitFirstSender 1 = .ok (.istore_n 1, 1) := by decide +kernel
theorem dX7_admitFirstSender_2 : decode cX7_admitFirstSender 2 = .ok (.iload_n 1, 1) := by decide +kernel
theorem dX7_admitFirstSender_3 : decode cX7_admitFirstSender 3 = .ok (.bipush 16, 2) := by decide +kernel
theorem dX7_admitFirstSender_5 : decode cX7_admitFirstSender 5 = .ok (.if_icmp .ge 93, 3) := by decide +kernel
theorem dX7_admitFirstSender_8 : decode cX7_admitFirstSender 8 = .ok (.aload_n 0, 1) := by decide +kernel
theorem dX7_admitFirstSender_9 : decode cX7_admitFirstSender 9 = .ok (.iload_n 1, 1) := by decide +kernel
theorem dX7_admitFirstSender_10 : decode cX7_admitFirstSender 10 = .ok (.invokevirtual 230, 3) := by decide +kernel
theorem dX7_admitFirstSender_13 : decode cX7_admitFirstSender 13 = .ok (.astore_n 2, 1) := by decide +kernel
theorem dX7_admitFirstSender_14 : decode cX7_admitFirstSender 14 = .ok (.aload_n 2, 1) := by decide +kernel
theorem dX7_admitFirstSender_15 : decode cX7_admitFirstSender 15 = .ok (.ifnull 77, 3) := by decide +kernel
theorem dX7_admitFirstSender_18 : decode cX7_admitFirstSender 18 = .ok (.aload_n 2, 1) := by decide +kernel
theorem dX7_admitFirstSender_19 : decode cX7_admitFirstSender 19 = .ok (.getfield 49, 3) := by decide +kernel
theorem dX7_admitFirstSender_22 : decode cX7_admitFirstSender 22 = .ok (.iconst 1, 1) := by decide +kernel
theorem dX7_admitFirstSender_23 : decode cX7_admitFirstSender 23 = .ok (.if_icmp .eq 6, 3) := by decide +kernel
theorem dX7_admitFirstSender_26 : decode cX7_admitFirstSender 26 = .ok (.goto 66, 3) := by decide +kernel
theorem dX7_admitFirstSender_29 : decode cX7_admitFirstSender 29 = .ok (.aload_n 2, 1) := by decide +kernel
theorem dX7_admitFirstSender_30 : decode cX7_admitFirstSender 30 = .ok (.getfield 226, 3) := by decide +kernel
theorem dX7_admitFirstSender_33 : decode cX7_admitFirstSender 33 = .ok (.astore 4, 2) := by decide +kernel
theorem dX7_admitFirstSender_35 : decode cX7_admitFirstSender 35 = .ok (.aload 4, 2) := by decide +kernel
theorem dX7_admitFirstSender_37 : decode cX7_admitFirstSender 37 = .ok (.instanceof 142, 3) := by decide +kernel
theorem dX7_admitFirstSender_40 : decode cX7_admitFirstSender 40 = .ok (.ifCond .eq 52, 3) := by decide +kernel
theorem dX7_admitFirstSender_43 : decode cX7_admitFirstSender 43 = .ok (.aload 4, 2) := by decide +kernel
theorem dX7_admitFirstSender_45 : decode cX7_admitFirstSender 45 = .ok (.checkcast 142, 3) := by decide +kernel
theorem dX7_admitFirstSender_48 : decode cX7_admitFirstSender 48 = .ok (.astore_n 3, 1) := by decide +kernel
theorem dX7_admitFirstSender_49 : decode cX7_admitFirstSender 49 = .ok (.aload_n 0, 1) := by decide +kernel
theorem dX7_admitFirstSender_50 : decode cX7_admitFirstSender 50 = .ok (.aload_n 3, 1) := by decide +kernel
theorem dX7_admitFirstSender_51 : decode cX7_admitFirstSender 51 = .ok (.aload_n 2, 1) := by decide +kernel
theorem dX7_admitFirstSender_52 : decode cX7_admitFirstSender 52 = .ok (.getfield 316, 3) := by decide +kernel
theorem dX7_admitFirstSender_55 : decode cX7_admitFirstSender 55 = .ok (.getfield 170, 3) := by decide +kernel
theorem dX7_admitFirstSender_58 : decode cX7_admitFirstSender 58 = .ok (.invokevirtual 328, 3) := by decide +kernel
theorem dX7_admitFirstSender_61 : decode cX7_admitFirstSender 61 = .ok (.ifCond .eq 31, 3) := by decide +kernel
theorem dX7_admitFirstSender_64 : decode cX7_admitFirstSender 64 = .ok (.aload_n 0, 1) := by decide +kernel
theorem dX7_admitFirstSender_65 : decode cX7_admitFirstSender 65 = .ok (.aload_n 2, 1) := by decide +kernel
theorem dX7_admitFirstSender_66 : decode cX7_admitFirstSender 66 = .ok (.iconst 0, 1) := by decide +kernel
theorem dX7_admitFirstSender_67 : decode cX7_admitFirstSender 67 = .ok (.invokevirtual 52, 3) := by decide +kernel
theorem dX7_admitFirstSender_70 : decode cX7_admitFirstSender 70 = .ok (.aload_n 0, 1) := by decide +kernel
theorem dX7_admitFirstSender_71 : decode cX7_admitFirstSender 71 = .ok (.aload_n 3, 1) := by decide +kernel
theorem dX7_admitFirstSender_72 : decode cX7_admitFirstSender 72 = .ok (.aload_n 2, 1) := by decide +kernel
theorem dX7_admitFirstSender_73 : decode cX7_admitFirstSender 73 = .ok (.getfield 316, 3) := by decide +kernel
theorem dX7_admitFirstSender_76 : decode cX7_admitFirstSender 76 = .ok (.invokevirtual 324, 3) := by decide +kernel
theorem dX7_admitFirstSender_79 : decode cX7_admitFirstSender 79 = .ok (.ifCond .ne 11, 3) := by decide +kernel
theorem dX7_admitFirstSender_82 : decode cX7_admitFirstSender 82 = .ok (.aload_n 3, 1) := by decide +kernel
theorem dX7_admitFirstSender_83 : decode cX7_admitFirstSender 83 = .ok (.aload_n 2, 1) := by decide +kernel
theorem dX7_admitFirstSender_84 : decode cX7_admitFirstSender 84 = .ok (.getfield 316, 3) := by decide +kernel
theorem dX7_admitFirstSender_87 : decode cX7_admitFirstSender 87 = .ok (.invokevirtual 332, 3) := by decide +kernel
theorem dX7_admitFirstSender_90 : decode cX7_admitFirstSender 90 = .ok (.iconst 1, 1) := by decide +kernel
theorem dX7_admitFirstSender_91 : decode cX7_admitFirstSender 91 = .ok (.ireturn, 1) := by decide +kernel
theorem dX7_admitFirstSender_92 : decode cX7_admitFirstSender 92 = .ok (.iinc 1 1, 3) := by decide +kernel
theorem dX7_admitFirstSender_95 : decode cX7_admitFirstSender 95 = .ok (.goto (-93), 3) := by decide +kernel
theorem dX7_admitFirstSender_98 : decode cX7_admitFirstSender 98 = .ok (.iconst 0, 1) := by decide +kernel
theorem dX7_admitFirstSender_99 : decode cX7_admitFirstSender 99 = .ok (.ireturn, 1) := by decide +kernel
theorem dX7_takeTo_0 : decode cX7_takeTo 0 = .ok (.iload_n 3, 1) := by decide +kernel
theorem dX7_takeTo_1 : decode cX7_takeTo 1 = .ok (.bipush 64, 2) := by decide +kernel
theorem dX7_takeTo_3 : decode cX7_takeTo 3 = .ok (.invokestatic 34, 3) := by decide +kernel
theorem dX7_takeTo_6 : decode cX7_takeTo 6 = .ok (.ifCond .eq 13, 3) := by decide +kernel
theorem dX7_takeTo_9 : decode cX7_takeTo 9 = .ok (.iload 6, 2) := by decide +kernel
theorem dX7_takeTo_11 : decode cX7_takeTo 11 = .ok (.bipush 7, 2) := by decide +kernel
theorem dX7_takeTo_13 : decode cX7_takeTo 13 = .ok (.invokestatic 34, 3) := by decide +kernel
theorem dX7_takeTo_16 : decode cX7_takeTo 16 = .ok (.ifCond .ne 6, 3) := by decide +kernel
theorem dX7_takeTo_19 : decode cX7_takeTo 19 = .ok (.bipush (-4), 2) := by decide +kernel
theorem dX7_takeTo_21 : decode cX7_takeTo 21 = .ok (.ireturn, 1) := by decide +kernel
theorem dX7_takeTo_22 : decode cX7_takeTo 22 = .ok (.aload_n 0, 1) := by decide +kernel
theorem dX7_takeTo_23 : decode cX7_takeTo 23 = .ok (.iload_n 2, 1) := by decide +kernel
theorem dX7_takeTo_24 : decode cX7_takeTo 24 = .ok (.invokevirtual 308, 3) := by decide +kernel
theorem dX7_takeTo_27 : decode cX7_takeTo 27 = .ok (.astore 7, 2) := by decide +kernel
theorem dX7_takeTo_29 : decode cX7_takeTo 29 = .ok (.aload 7, 2) := by decide +kernel
theorem dX7_takeTo_31 : decode cX7_takeTo 31 = .ok (.ifnonnull 6, 3) := by decide +kernel
theorem dX7_takeTo_34 : decode cX7_takeTo 34 = .ok (.bipush (-5), 2) := by decide +kernel
theorem dX7_takeTo_36 : decode cX7_takeTo 36 = .ok (.ireturn, 1) := by decide +kernel
theorem dX7_takeTo_37 : decode cX7_takeTo 37 = .ok (.aload 7, 2) := by decide +kernel
theorem dX7_takeTo_39 : decode cX7_takeTo 39 = .ok (.aload_n 1, 1) := by decide +kernel
theorem dX7_takeTo_40 : decode cX7_takeTo 40 = .ok (.iconst 4, 1) := by decide +kernel
theorem dX7_takeTo_41 : decode cX7_takeTo 41 = .ok (.invokevirtual 315, 3) := by decide +kernel
theorem dX7_takeTo_44 : decode cX7_takeTo 44 = .ok (.ifCond .ne 6, 3) := by decide +kernel
theorem dX7_takeTo_47 : decode cX7_takeTo 47 = .ok (.bipush (-6), 2) := by decide +kernel
theorem dX7_takeTo_49 : decode cX7_takeTo 49 = .ok (.ireturn, 1) := by decide +kernel
theorem dX7_takeTo_50 : decode cX7_takeTo 50 = .ok (.aload_n 1, 1) := by decide +kernel
theorem dX7_takeTo_51 : decode cX7_takeTo 51 = .ok (.getfield 343, 3) := by decide +kernel
theorem dX7_takeTo_54 : decode cX7_takeTo 54 = .ok (.iload_n 3, 1) := by decide +kernel
theorem dX7_takeTo_55 : decode cX7_takeTo 55 = .ok (.lload 4, 2) := by decide +kernel
theorem dX7_takeTo_57 : decode cX7_takeTo 57 = .ok (.iload 6, 2) := by decide +kernel
theorem dX7_takeTo_59 : decode cX7_takeTo 59 = .ok (.invokevirtual 364, 3) := by decide +kernel
theorem dX7_takeTo_62 : decode cX7_takeTo 62 = .ok (.aload 7, 2) := by decide +kernel
theorem dX7_takeTo_64 : decode cX7_takeTo 64 = .ok (.aload_n 1, 1) := by decide +kernel
theorem dX7_takeTo_65 : decode cX7_takeTo 65 = .ok (.getfield 343, 3) := by decide +kernel
theorem dX7_takeTo_68 : decode cX7_takeTo 68 = .ok (.invokevirtual 368, 3) := by decide +kernel
theorem dX7_takeTo_71 : decode cX7_takeTo 71 = .ok (.istore 8, 2) := by decide +kernel
theorem dX7_takeTo_73 : decode cX7_takeTo 73 = .ok (.aload 7, 2) := by decide +kernel
theorem dX7_takeTo_75 : decode cX7_takeTo 75 = .ok (.iload 8, 2) := by decide +kernel
theorem dX7_takeTo_77 : decode cX7_takeTo 77 = .ok (.invokevirtual 159, 3) := by decide +kernel
theorem dX7_takeTo_80 : decode cX7_takeTo 80 = .ok (.astore 9, 2) := by decide +kernel
theorem dX7_takeTo_82 : decode cX7_takeTo 82 = .ok (.aload 9, 2) := by decide +kernel
theorem dX7_takeTo_84 : decode cX7_takeTo 84 = .ok (.ifnonnull 24, 3) := by decide +kernel
theorem dX7_takeTo_87 : decode cX7_takeTo 87 = .ok (.iload 6, 2) := by decide +kernel
theorem dX7_takeTo_89 : decode cX7_takeTo 89 = .ok (.iconst 1, 1) := by decide +kernel
theorem dX7_takeTo_90 : decode cX7_takeTo 90 = .ok (.iand, 1) := by decide +kernel
theorem dX7_takeTo_91 : decode cX7_takeTo 91 = .ok (.ifCond .eq 6, 3) := by decide +kernel
theorem dX7_takeTo_94 : decode cX7_takeTo 94 = .ok (.bipush (-12), 2) := by decide +kernel
theorem dX7_takeTo_96 : decode cX7_takeTo 96 = .ok (.ireturn, 1) := by decide +kernel
theorem dX7_takeTo_97 : decode cX7_takeTo 97 = .ok (.aload_n 0, 1) := by decide +kernel
theorem dX7_takeTo_98 : decode cX7_takeTo 98 = .ok (.aload_n 1, 1) := by decide +kernel
theorem dX7_takeTo_99 : decode cX7_takeTo 99 = .ok (.iconst 2, 1) := by decide +kernel
theorem dX7_takeTo_100 : decode cX7_takeTo 100 = .ok (.aload 7, 2) := by decide +kernel
theorem dX7_takeTo_102 : decode cX7_takeTo 102 = .ok (.invokevirtual 336, 3) := by decide +kernel
theorem dX7_takeTo_105 : decode cX7_takeTo 105 = .ok (.bipush (-10), 2) := by decide +kernel
theorem dX7_takeTo_107 : decode cX7_takeTo 107 = .ok (.ireturn, 1) := by decide +kernel
theorem dX7_takeTo_108 : decode cX7_takeTo 108 = .ok (.aload_n 1, 1) := by decide +kernel
theorem dX7_takeTo_109 : decode cX7_takeTo 109 = .ok (.getfield 343, 3) := by decide +kernel
theorem dX7_takeTo_112 : decode cX7_takeTo 112 = .ok (.aload 9, 2) := by decide +kernel
theorem dX7_takeTo_114 : decode cX7_takeTo 114 = .ok (.invokevirtual 353, 3) := by decide +kernel
theorem dX7_takeTo_117 : decode cX7_takeTo 117 = .ok (.ifCond .eq 6, 3) := by decide +kernel
theorem dX7_takeTo_120 : decode cX7_takeTo 120 = .ok (.bipush (-13), 2) := by decide +kernel
theorem dX7_takeTo_122 : decode cX7_takeTo 122 = .ok (.ireturn, 1) := by decide +kernel
theorem dX7_takeTo_123 : decode cX7_takeTo 123 = .ok (.aload_n 1, 1) := by decide +kernel
theorem dX7_takeTo_124 : decode cX7_takeTo 124 = .ok (.aload 9, 2) := by decide +kernel
theorem dX7_takeTo_126 : decode cX7_takeTo 126 = .ok (.invokevirtual 357, 3) := by decide +kernel
theorem dX7_takeTo_129 : decode cX7_takeTo 129 = .ok (.istore 10, 2) := by decide +kernel
theorem dX7_takeTo_131 : decode cX7_takeTo 131 = .ok (.aload 7, 2) := by decide +kernel
theorem dX7_takeTo_133 : decode cX7_takeTo 133 = .ok (.iload 8, 2) := by decide +kernel
theorem dX7_takeTo_135 : decode cX7_takeTo 135 = .ok (.invokevirtual 372, 3) := by decide +kernel
theorem dX7_takeTo_138 : decode cX7_takeTo 138 = .ok (.aload_n 0, 1) := by decide +kernel
theorem dX7_takeTo_139 : decode cX7_takeTo 139 = .ok (.invokevirtual 296, 3) := by decide +kernel
theorem dX7_takeTo_142 : decode cX7_takeTo 142 = .ok (.iload 10, 2) := by decide +kernel
theorem dX7_takeTo_144 : decode cX7_takeTo 144 = .ok (.ireturn, 1) := by decide +kernel
theorem dX7_stepOn_0 : decode cX7_stepOn 0 = .ok (.aload_n 1, 1) := by decide +kernel
theorem dX7_stepOn_1 : decode cX7_stepOn 1 = .ok (.getfield 120, 3) := by decide +kernel
theorem dX7_stepOn_4 : decode cX7_stepOn 4 = .ok (.astore_n 3, 1) := by decide +kernel
theorem dX7_stepOn_5 : decode cX7_stepOn 5 = .ok (.aload_n 3, 1) := by decide +kernel
theorem dX7_stepOn_6 : decode cX7_stepOn 6 = .ok (.invokevirtual 375, 3) := by decide +kernel
theorem dX7_stepOn_9 : decode cX7_stepOn 9 = .ok (.aload_n 0, 1) := by decide +kernel
theorem dX7_stepOn_10 : decode cX7_stepOn 10 = .ok (.iload_n 2, 1) := by decide +kernel
theorem dX7_stepOn_11 : decode cX7_stepOn 11 = .ok (.invokevirtual 378, 3) := by decide +kernel
theorem dX7_stepOn_14 : decode cX7_stepOn 14 = .ok (.astore 4, 2) := by decide +kernel
theorem dX7_stepOn_16 : decode cX7_stepOn 16 = .ok (.aload 4, 2) := by decide +kernel
theorem dX7_stepOn_18 : decode cX7_stepOn 18 = .ok (.ifnull 22, 3) := by decide +kernel
theorem dX7_stepOn_21 : decode cX7_stepOn 21 = .ok (.aload_n 3, 1) := by decide +kernel
theorem dX7_stepOn_22 : decode cX7_stepOn 22 = .ok (.getfield 381, 3) := by decide +kernel
theorem dX7_stepOn_25 : decode cX7_stepOn 25 = .ok (.ifCond .eq 15, 3) := by decide +kernel
theorem dX7_stepOn_28 : decode cX7_stepOn 28 = .ok (.aload_n 3, 1) := by decide +kernel
theorem dX7_stepOn_29 : decode cX7_stepOn 29 = .ok (.invokevirtual 382, 3) := by decide +kernel
theorem dX7_stepOn_32 : decode cX7_stepOn 32 = .ok (.aload 4, 2) := by decide +kernel
theorem dX7_stepOn_34 : decode cX7_stepOn 34 = .ok (.getfield 176, 3) := by decide +kernel
theorem dX7_stepOn_37 : decode cX7_stepOn 37 = .ok (.if_icmp .lt 6, 3) := by decide +kernel
theorem dX7_stepOn_40 : decode cX7_stepOn 40 = .ok (.bipush (-5), 2) := by decide +kernel
theorem dX7_stepOn_42 : decode cX7_stepOn 42 = .ok (.ireturn, 1) := by decide +kernel
theorem dX7_stepOn_43 : decode cX7_stepOn 43 = .ok (.aload 4, 2) := by decide +kernel
theorem dX7_stepOn_45 : decode cX7_stepOn 45 = .ok (.aload_n 1, 1) := by decide +kernel
theorem dX7_stepOn_46 : decode cX7_stepOn 46 = .ok (.aload_n 3, 1) := by decide +kernel
theorem dX7_stepOn_47 : decode cX7_stepOn 47 = .ok (.invokevirtual 385, 3) := by decide +kernel
theorem dX7_stepOn_50 : decode cX7_stepOn 50 = .ok (.ifCond .eq 7, 3) := by decide +kernel
theorem dX7_stepOn_53 : decode cX7_stepOn 53 = .ok (.iconst 2, 1) := by decide +kernel
theorem dX7_stepOn_54 : decode cX7_stepOn 54 = .ok (.goto 4, 3) := by decide +kernel
theorem dX7_stepOn_57 : decode cX7_stepOn 57 = .ok (.iconst 4, 1) := by decide +kernel
theorem dX7_stepOn_58 : decode cX7_stepOn 58 = .ok (.invokevirtual 388, 3) := by decide +kernel
theorem dX7_stepOn_61 : decode cX7_stepOn 61 = .ok (.ifCond .ne 6, 3) := by decide +kernel
theorem dX7_stepOn_64 : decode cX7_stepOn 64 = .ok (.bipush (-6), 2) := by decide +kernel
theorem dX7_stepOn_66 : decode cX7_stepOn 66 = .ok (.ireturn, 1) := by decide +kernel
theorem dX7_stepOn_67 : decode cX7_stepOn 67 = .ok (.aload 4, 2) := by decide +kernel
theorem dX7_stepOn_69 : decode cX7_stepOn 69 = .ok (.aload_n 3, 1) := by decide +kernel
theorem dX7_stepOn_70 : decode cX7_stepOn 70 = .ok (.aload_n 1, 1) := by decide +kernel
theorem dX7_stepOn_71 : decode cX7_stepOn 71 = .ok (.getfield 60, 3) := by decide +kernel
theorem dX7_stepOn_74 : decode cX7_stepOn 74 = .ok (.invokevirtual 389, 3) := by decide +kernel
theorem dX7_stepOn_77 : decode cX7_stepOn 77 = .ok (.istore 5, 2) := by decide +kernel
theorem dX7_stepOn_79 : decode cX7_stepOn 79 = .ok (.iload 5, 2) := by decide +kernel
theorem dX7_stepOn_81 : decode cX7_stepOn 81 = .ok (.iconst 1, 1) := by decide +kernel
theorem dX7_stepOn_82 : decode cX7_stepOn 82 = .ok (.if_icmp .ne 24, 3) := by decide +kernel
theorem dX7_stepOn_85 : decode cX7_stepOn 85 = .ok (.aload_n 3, 1) := by decide +kernel
theorem dX7_stepOn_86 : decode cX7_stepOn 86 = .ok (.invokevirtual 393, 3) := by decide +kernel
theorem dX7_stepOn_89 : decode cX7_stepOn 89 = .ok (.ifCond .eq 6, 3) := by decide +kernel
theorem dX7_stepOn_92 : decode cX7_stepOn 92 = .ok (.bipush (-11), 2) := by decide +kernel
theorem dX7_stepOn_94 : decode cX7_stepOn 94 = .ok (.ireturn, 1) := by decide +kernel
theorem dX7_stepOn_95 : decode cX7_stepOn 95 = .ok (.aload_n 0, 1) := by decide +kernel
theorem dX7_stepOn_96 : decode cX7_stepOn 96 = .ok (.aload_n 1, 1) := by decide +kernel
theorem dX7_stepOn_97 : decode cX7_stepOn 97 = .ok (.iconst 3, 1) := by decide +kernel
theorem dX7_stepOn_98 : decode cX7_stepOn 98 = .ok (.aload 4, 2) := by decide +kernel
theorem dX7_stepOn_100 : decode cX7_stepOn 100 = .ok (.invokevirtual 336, 3) := by decide +kernel
theorem dX7_stepOn_103 : decode cX7_stepOn 103 = .ok (.bipush (-10), 2) := by decide +kernel
theorem dX7_stepOn_105 : decode cX7_stepOn 105 = .ok (.ireturn, 1) := by decide +kernel
theorem dX7_stepOn_106 : decode cX7_stepOn 106 = .ok (.iload 5, 2) := by decide +kernel
theorem dX7_stepOn_108 : decode cX7_stepOn 108 = .ok (.ifCond .ne 17, 3) := by decide +kernel
theorem dX7_stepOn_111 : decode cX7_stepOn 111 = .ok (.aload 4, 2) := by decide +kernel
theorem dX7_stepOn_113 : decode cX7_stepOn 113 = .ok (.getfield 396, 3) := by decide +kernel
theorem dX7_stepOn_116 : decode cX7_stepOn 116 = .ok (.ifCond .eq 9, 3) := by decide +kernel
theorem dX7_stepOn_119 : decode cX7_stepOn 119 = .ok (.aload_n 0, 1) := by decide +kernel
theorem dX7_stepOn_120 : decode cX7_stepOn 120 = .ok (.aload 4, 2) := by decide +kernel
theorem dX7_stepOn_122 : decode cX7_stepOn 122 = .ok (.invokevirtual 69, 3) := by decide +kernel
theorem dX7_stepOn_125 : decode cX7_stepOn 125 = .ok (.iload 5, 2) := by decide +kernel
theorem dX7_stepOn_127 : decode cX7_stepOn 127 = .ok (.ireturn, 1) := by decide +kernel
theorem dX7_changeValue_0 : decode cX7_changeValue 0 = .ok (.iload 4, 2) := by decide +kernel
theorem dX7_changeValue_2 : decode cX7_changeValue 2 = .ok (.sipush 32767, 3) := by decide +kernel
theorem dX7_changeValue_5 : decode cX7_changeValue 5 = .ok (.invokestatic 34, 3) := by decide +kernel
theorem dX7_changeValue_8 : decode cX7_changeValue 8 = .ok (.ifCond .ne 6, 3) := by decide +kernel
theorem dX7_changeValue_11 : decode cX7_changeValue 11 = .ok (.bipush (-4), 2) := by decide +kernel
theorem dX7_changeValue_13 : decode cX7_changeValue 13 = .ok (.ireturn, 1) := by decide +kernel
theorem dX7_changeValue_14 : decode cX7_changeValue 14 = .ok (.aload_n 0, 1) := by decide +kernel
theorem dX7_changeValue_15 : decode cX7_changeValue 15 = .ok (.iload_n 2, 1) := by decide +kernel
theorem dX7_changeValue_16 : decode cX7_changeValue 16 = .ok (.invokevirtual 378, 3) := by decide +kernel
theorem dX7_changeValue_19 : decode cX7_changeValue 19 = .ok (.astore 5, 2) := by decide +kernel
theorem dX7_changeValue_21 : decode cX7_changeValue 21 = .ok (.aload 5, 2) := by decide +kernel
theorem dX7_changeValue_23 : decode cX7_changeValue 23 = .ok (.ifnull 12, 3) := by decide +kernel
theorem dX7_changeValue_26 : decode cX7_changeValue 26 = .ok (.aload 5, 2) := by decide +kernel
theorem dX7_changeValue_28 : decode cX7_changeValue 28 = .ok (.iload_n 3, 1) := by decide +kernel
theorem dX7_changeValue_29 : decode cX7_changeValue 29 = .ok (.invokevirtual 178, 3) := by decide +kernel
theorem dX7_changeValue_32 : decode cX7_changeValue 32 = .ok (.ifCond .ne 6, 3) := by decide +kernel
theorem dX7_changeValue_35 : decode cX7_changeValue 35 = .ok (.bipush (-5), 2) := by decide +kernel
theorem dX7_changeValue_37 : decode cX7_changeValue 37 = .ok (.ireturn, 1) := by decide +kernel
theorem dX7_changeValue_38 : decode cX7_changeValue 38 = .ok (.aload 5, 2) := by decide +kernel
theorem dX7_changeValue_40 : decode cX7_changeValue 40 = .ok (.aload_n 1, 1) := by decide +kernel
theorem dX7_changeValue_41 : decode cX7_changeValue 41 = .ok (.iconst 2, 1) := by decide +kernel
theorem dX7_changeValue_42 : decode cX7_changeValue 42 = .ok (.invokevirtual 388, 3) := by decide +kernel
theorem dX7_changeValue_45 : decode cX7_changeValue 45 = .ok (.ifCond .ne 6, 3) := by decide +kernel
theorem dX7_changeValue_48 : decode cX7_changeValue 48 = .ok (.bipush (-6), 2) := by decide +kernel
theorem dX7_changeValue_50 : decode cX7_changeValue 50 = .ok (.ireturn, 1) := by decide +kernel
theorem dX7_changeValue_51 : decode cX7_changeValue 51 = .ok (.aload 5, 2) := by decide +kernel
theorem dX7_changeValue_53 : decode cX7_changeValue 53 = .ok (.iload_n 3, 1) := by decide +kernel
theorem dX7_changeValue_54 : decode cX7_changeValue 54 = .ok (.iload 4, 2) := by decide +kernel
theorem dX7_changeValue_56 : decode cX7_changeValue 56 = .ok (.aload_n 1, 1) := by decide +kernel
theorem dX7_changeValue_57 : decode cX7_changeValue 57 = .ok (.getfield 60, 3) := by decide +kernel
theorem dX7_changeValue_60 : decode cX7_changeValue 60 = .ok (.invokevirtual 399, 3) := by decide +kernel
theorem dX7_changeValue_63 : decode cX7_changeValue 63 = .ok (.ifCond .eq 9, 3) := by decide +kernel
theorem dX7_changeValue_66 : decode cX7_changeValue 66 = .ok (.aload_n 0, 1) := by decide +kernel
theorem dX7_changeValue_67 : decode cX7_changeValue 67 = .ok (.aload 5, 2) := by decide +kernel
theorem dX7_changeValue_69 : decode cX7_changeValue 69 = .ok (.invokevirtual 69, 3) := by decide +kernel
theorem dX7_changeValue_72 : decode cX7_changeValue 72 = .ok (.iconst 0, 1) := by decide +kernel
theorem dX7_changeValue_73 : decode cX7_changeValue 73 = .ok (.ireturn, 1) := by decide +kernel
theorem dX7_serveAll_0 : decode cX7_serveAll 0 = .ok (.iconst 1, 1) := by decide +kernel
theorem dX7_serveAll_1 : decode cX7_serveAll 1 = .ok (.istore_n 2, 1) := by decide +kernel
theorem dX7_serveAll_2 : decode cX7_serveAll 2 = .ok (.iconst 0, 1) := by decide +kernel
theorem dX7_serveAll_3 : decode cX7_serveAll 3 = .ok (.istore_n 3, 1) := by decide +kernel
theorem dX7_serveAll_4 : decode cX7_serveAll 4 = .ok (.iload_n 3, 1) := by decide +kernel
theorem dX7_serveAll_5 : decode cX7_serveAll 5 = .ok (.bipush 16, 2) := by decide +kernel
theorem dX7_serveAll_7 : decode cX7_serveAll 7 = .ok (.if_icmp .gt 19, 3) := by decide +kernel
theorem dX7_serveAll_10 : decode cX7_serveAll 10 = .ok (.iload_n 2, 1) := by decide +kernel
theorem dX7_serveAll_11 : decode cX7_serveAll 11 = .ok (.ifCond .eq 15, 3) := by decide +kernel
theorem dX7_serveAll_14 : decode cX7_serveAll 14 = .ok (.aload_n 0, 1) := by decide +kernel
theorem dX7_serveAll_15 : decode cX7_serveAll 15 = .ok (.aload_n 1, 1) := by decide +kernel
theorem dX7_serveAll_16 : decode cX7_serveAll 16 = .ok (.invokevirtual 403, 3) := by decide +kernel
theorem dX7_serveAll_19 : decode cX7_serveAll 19 = .ok (.istore_n 2, 1) := by decide +kernel
theorem dX7_serveAll_20 : decode cX7_serveAll 20 = .ok (.iinc 3 1, 3) := by decide +kernel
theorem dX7_serveAll_23 : decode cX7_serveAll 23 = .ok (.goto (-19), 3) := by decide +kernel
theorem dX7_serveAll_26 : decode cX7_serveAll 26 = .ok (.return_, 1) := by decide +kernel
theorem dX7_serveLine_0 : decode cX7_serveLine 0 = .ok (.iconst 0, 1) := by decide +kernel
theorem dX7_serveLine_1 : decode cX7_serveLine 1 = .ok (.istore_n 2, 1) := by decide +kernel
theorem dX7_serveLine_2 : decode cX7_serveLine 2 = .ok (.iconst 0, 1) := by decide +kernel
theorem dX7_serveLine_3 : decode cX7_serveLine 3 = .ok (.istore_n 3, 1) := by decide +kernel
theorem dX7_serveLine_4 : decode cX7_serveLine 4 = .ok (.iload_n 3, 1) := by decide +kernel
theorem dX7_serveLine_5 : decode cX7_serveLine 5 = .ok (.bipush 16, 2) := by decide +kernel
theorem dX7_serveLine_7 : decode cX7_serveLine 7 = .ok (.if_icmp .ge 87, 3) := by decide +kernel
theorem dX7_serveLine_10 : decode cX7_serveLine 10 = .ok (.aload_n 0, 1) := by decide +kernel
theorem dX7_serveLine_11 : decode cX7_serveLine 11 = .ok (.iload_n 2, 1) := by decide +kernel
theorem dX7_serveLine_12 : decode cX7_serveLine 12 = .ok (.invokevirtual 230, 3) := by decide +kernel
theorem dX7_serveLine_15 : decode cX7_serveLine 15 = .ok (.astore 4, 2) := by decide +kernel
theorem dX7_serveLine_17 : decode cX7_serveLine 17 = .ok (.aload 4, 2) := by decide +kernel
theorem dX7_serveLine_19 : decode cX7_serveLine 19 = .ok (.ifnull 13, 3) := by decide +kernel
theorem dX7_serveLine_22 : decode cX7_serveLine 22 = .ok (.aload 4, 2) := by decide +kernel
theorem dX7_serveLine_24 : decode cX7_serveLine 24 = .ok (.iconst 3, 1) := by decide +kernel
theorem dX7_serveLine_25 : decode cX7_serveLine 25 = .ok (.aload_n 1, 1) := by decide +kernel
theorem dX7_serveLine_26 : decode cX7_serveLine 26 = .ok (.invokevirtual 233, 3) := by decide +kernel
theorem dX7_serveLine_29 : decode cX7_serveLine 29 = .ok (.ifCond .ne 9, 3) := by decide +kernel
theorem dX7_serveLine_32 : decode cX7_serveLine 32 = .ok (.iinc 2 1, 3) := by decide +kernel
theorem dX7_serveLine_35 : decode cX7_serveLine 35 = .ok (.goto 53, 3) := by decide +kernel
theorem dX7_serveLine_38 : decode cX7_serveLine 38 = .ok (.aload_n 1, 1) := by decide +kernel
theorem dX7_serveLine_39 : decode cX7_serveLine 39 = .ok (.aload 4, 2) := by decide +kernel
theorem dX7_serveLine_41 : decode cX7_serveLine 41 = .ok (.getfield 120, 3) := by decide +kernel
theorem dX7_serveLine_44 : decode cX7_serveLine 44 = .ok (.aload 4, 2) := by decide +kernel
theorem dX7_serveLine_46 : decode cX7_serveLine 46 = .ok (.getfield 60, 3) := by decide +kernel
theorem dX7_serveLine_49 : decode cX7_serveLine 49 = .ok (.invokevirtual 389, 3) := by decide +kernel
theorem dX7_serveLine_52 : decode cX7_serveLine 52 = .ok (.istore 5, 2) := by decide +kernel
theorem dX7_serveLine_54 : decode cX7_serveLine 54 = .ok (.iload 5, 2) := by decide +kernel
theorem dX7_serveLine_56 : decode cX7_serveLine 56 = .ok (.iconst 1, 1) := by decide +kernel
theorem dX7_serveLine_57 : decode cX7_serveLine 57 = .ok (.if_icmp .ne 9, 3) := by decide +kernel
theorem dX7_serveLine_60 : decode cX7_serveLine 60 = .ok (.iinc 2 1, 3) := by decide +kernel
theorem dX7_serveLine_63 : decode cX7_serveLine 63 = .ok (.goto 25, 3) := by decide +kernel
theorem dX7_serveLine_66 : decode cX7_serveLine 66 = .ok (.aload_n 0, 1) := by decide +kernel
theorem dX7_serveLine_67 : decode cX7_serveLine 67 = .ok (.aload 4, 2) := by decide +kernel
theorem dX7_serveLine_69 : decode cX7_serveLine 69 = .ok (.iload 5, 2) := by decide +kernel
theorem dX7_serveLine_71 : decode cX7_serveLine 71 = .ok (.invokevirtual 52, 3) := by decide +kernel
theorem dX7_serveLine_74 : decode cX7_serveLine 74 = .ok (.iload 5, 2) := by decide +kernel
theorem dX7_serveLine_76 : decode cX7_serveLine 76 = .ok (.ifCond .ne 12, 3) := by decide +kernel
theorem dX7_serveLine_79 : decode cX7_serveLine 79 = .ok (.aload_n 1, 1) := by decide +kernel
theorem dX7_serveLine_80 : decode cX7_serveLine 80 = .ok (.getfield 396, 3) := by decide +kernel
theorem dX7_serveLine_83 : decode cX7_serveLine 83 = .ok (.ifCond .eq 5, 3) := by decide +kernel
theorem dX7_serveLine_86 : decode cX7_serveLine 86 = .ok (.iconst 1, 1) := by decide +kernel
theorem dX7_serveLine_87 : decode cX7_serveLine 87 = .ok (.ireturn, 1) := by decide +kernel
theorem dX7_serveLine_88 : decode cX7_serveLine 88 = .ok (.iinc 3 1, 3) := by decide +kernel
theorem dX7_serveLine_91 : decode cX7_serveLine 91 = .ok (.goto (-87), 3) := by decide +kernel
theorem dX7_serveLine_94 : decode cX7_serveLine 94 = .ok (.iconst 0, 1) := by decide +kernel
theorem dX7_serveLine_95 : decode cX7_serveLine 95 = .ok (.ireturn, 1) := by decide +kernel
theorem dX8_init_0 : decode cX8_init 0 = .ok (.aload_n 0, 1) := by decide +kernel
theorem dX8_init_1 : decode cX8_init 1 = .ok (.invokespecial 1, 3) := by decide +kernel
theorem dX8_init_4 : decode cX8_init 4 = .ok (.aload_n 0, 1) := by decide +kernel
theorem dX8_init_5 : decode cX8_init 5 = .ok (.bipush 16, 2) := by decide +kernel
theorem dX8_init_7 : decode cX8_init 7 = .ok (.newarray .int, 2) := by decide +kernel
theorem dX8_init_9 : decode cX8_init 9 = .ok (.putfield 7, 3) := by decide +kernel
theorem dX8_init_12 : decode cX8_init 12 = .ok (.aload_n 0, 1) := by decide +kernel
theorem dX8_init_13 : decode cX8_init 13 = .ok (.bipush 16, 2) := by decide +kernel
theorem dX8_init_15 : decode cX8_init 15 = .ok (.newarray .int, 2) := by decide +kernel
theorem dX8_init_17 : decode cX8_init 17 = .ok (.putfield 13, 3) := by decide +kernel
theorem dX8_init_20 : decode cX8_init 20 = .ok (.aload_n 0, 1) := by decide +kernel
theorem dX8_init_21 : decode cX8_init 21 = .ok (.bipush 16, 2) := by decide +kernel
theorem dX8_init_23 : decode cX8_init 23 = .ok (.newarray .boolean, 2) := by decide +kernel
theorem dX8_init_25 : decode cX8_init 25 = .ok (.putfield 16, 3) := by decide +kernel
theorem dX8_init_28 : decode cX8_init 28 = .ok (.aload_n 0, 1) := by decide +kernel
theorem dX8_init_29 : decode cX8_init 29 = .ok (.bipush 16, 2) := by decide +kernel
theorem dX8_init_31 : decode cX8_init 31 = .ok (.newarray .int, 2) := by decide +kernel
theorem dX8_init_33 : decode cX8_init 33 = .ok (.putfield 20, 3) := by decide +kernel
theorem dX8_init_36 : decode cX8_init 36 = .ok (.aload_n 0, 1) := by decide +kernel
theorem dX8_init_37 : decode cX8_init 37 = .ok (.sipush 1024, 3) := by decide +kernel
theorem dX8_init_40 : decode cX8_init 40 = .ok (.newarray .int, 2) := by decide +kernel
theorem dX8_init_42 : decode cX8_init 42 = .ok (.putfield 23, 3) := by decide +kernel
theorem dX8_init_45 : decode cX8_init 45 = .ok (.aload_n 0, 1) := by decide +kernel
theorem dX8_init_46 : decode cX8_init 46 = .ok (.bipush 16, 2) := by decide +kernel
theorem dX8_init_48 : decode cX8_init 48 = .ok (.newarray .long, 2) := by decide +kernel
theorem dX8_init_50 : decode cX8_init 50 = .ok (.putfield 26, 3) := by decide +kernel
theorem dX8_init_53 : decode cX8_init 53 = .ok (.aload_n 0, 1) := by decide +kernel
theorem dX8_init_54 : decode cX8_init 54 = .ok (.bipush 16, 2) := by decide +kernel
theorem dX8_init_56 : decode cX8_init 56 = .ok (.newarray .int, 2) := by decide +kernel
theorem dX8_init_58 : decode cX8_init 58 = .ok (.putfield 30, 3) := by decide +kernel
theorem dX8_init_61 : decode cX8_init 61 = .ok (.aload_n 0, 1) := by decide +kernel
theorem dX8_init_62 : decode cX8_init 62 = .ok (.bipush 16, 2) := by decide +kernel
theorem dX8_init_64 : decode cX8_init 64 = .ok (.newarray .int, 2) := by decide +kernel
theorem dX8_init_66 : decode cX8_init 66 = .ok (.putfield 33, 3) := by decide +kernel
theorem dX8_init_69 : decode cX8_init 69 = .ok (.aload_n 0, 1) := by decide +kernel
theorem dX8_init_70 : decode cX8_init 70 = .ok (.bipush 16, 2) := by decide +kernel
theorem dX8_init_72 : decode cX8_init 72 = .ok (.newarray .int, 2) := by decide +kernel
theorem dX8_init_74 : decode cX8_init 74 = .ok (.putfield 36, 3) := by decide +kernel
theorem dX8_init_77 : decode cX8_init 77 = .ok (.aload_n 0, 1) := by decide +kernel
theorem dX8_init_78 : decode cX8_init 78 = .ok (.bipush 16, 2) := by decide +kernel
theorem dX8_init_80 : decode cX8_init 80 = .ok (.newarray .long, 2) := by decide +kernel
theorem dX8_init_82 : decode cX8_init 82 = .ok (.putfield 39, 3) := by decide +kernel
theorem dX8_init_85 : decode cX8_init 85 = .ok (.aload_n 0, 1) := by decide +kernel
theorem dX8_init_86 : decode cX8_init 86 = .ok (.bipush 16, 2) := by decide +kernel
theorem dX8_init_88 : decode cX8_init 88 = .ok (.newarray .int, 2) := by decide +kernel
theorem dX8_init_90 : decode cX8_init 90 = .ok (.putfield 42, 3) := by decide +kernel
theorem dX8_init_93 : decode cX8_init 93 = .ok (.aload_n 0, 1) := by decide +kernel
theorem dX8_init_94 : decode cX8_init 94 = .ok (.bipush 16, 2) := by decide +kernel
theorem dX8_init_96 : decode cX8_init 96 = .ok (.newarray .int, 2) := by decide +kernel
theorem dX8_init_98 : decode cX8_init 98 = .ok (.putfield 45, 3) := by decide +kernel
theorem dX8_init_101 : decode cX8_init 101 = .ok (.aload_n 0, 1) := by decide +kernel
theorem dX8_init_102 : decode cX8_init 102 = .ok (.sipush 1024, 3) := by decide +kernel
theorem dX8_init_105 : decode cX8_init 105 = .ok (.newarray .int, 2) := by decide +kernel
theorem dX8_init_107 : decode cX8_init 107 = .ok (.putfield 48, 3) := by decide +kernel
theorem dX8_init_110 : decode cX8_init 110 = .ok (.aload_n 0, 1) := by decide +kernel
theorem dX8_init_111 : decode cX8_init 111 = .ok (.bipush 16, 2) := by decide +kernel
theorem dX8_init_113 : decode cX8_init 113 = .ok (.newarray .int, 2) := by decide +kernel
theorem dX8_init_115 : decode cX8_init 115 = .ok (.putfield 51, 3) := by decide +kernel
theorem dX8_init_118 : decode cX8_init 118 = .ok (.aload_n 0, 1) := by decide +kernel
theorem dX8_init_119 : decode cX8_init 119 = .ok (.bipush 16, 2) := by decide +kernel
theorem dX8_init_121 : decode cX8_init 121 = .ok (.newarray .int, 2) := by decide +kernel
theorem dX8_init_123 : decode cX8_init 123 = .ok (.putfield 54, 3) := by decide +kernel
theorem dX8_init_126 : decode cX8_init 126 = .ok (.aload_n 0, 1) := by decide +kernel
theorem dX8_init_127 : decode cX8_init 127 = .ok (.sipush 128, 3) := by decide +kernel
theorem dX8_init_130 : decode cX8_init 130 = .ok (.newarray .int, 2) := by decide +kernel
theorem dX8_init_132 : decode cX8_init 132 = .ok (.putfield 57, 3) := by decide +kernel
theorem dX8_init_135 : decode cX8_init 135 = .ok (.aload_n 0, 1) := by decide +kernel
theorem dX8_init_136 : decode cX8_init 136 = .ok (.sipush 128, 3) := by decide +kernel
theorem dX8_init_139 : decode cX8_init 139 = .ok (.newarray .int, 2) := by decide +kernel
theorem dX8_init_141 : decode cX8_init 141 = .ok (.putfield 60, 3) := by decide +kernel
theorem dX8_init_144 : decode cX8_init 144 = .ok (.aload_n 0, 1) := by decide +kernel
theorem dX8_init_145 : decode cX8_init 145 = .ok (.sipush 128, 3) := by decide +kernel
theorem dX8_init_148 : decode cX8_init 148 = .ok (.newarray .int, 2) := by decide +kernel
theorem dX8_init_150 : decode cX8_init 150 = .ok (.putfield 63, 3) := by decide +kernel
theorem dX8_init_153 : decode cX8_init 153 = .ok (.aload_n 0, 1) := by decide +kernel
theorem dX8_init_154 : decode cX8_init 154 = .ok (.bipush 16, 2) := by decide +kernel
theorem dX8_init_156 : decode cX8_init 156 = .ok (.newarray .int, 2) := by decide +kernel
theorem dX8_init_158 : decode cX8_init 158 = .ok (.putfield 66, 3) := by decide +kernel
theorem dX8_init_161 : decode cX8_init 161 = .ok (.aload_n 0, 1) := by decide +kernel
theorem dX8_init_162 : decode cX8_init 162 = .ok (.sipush 128, 3) := by decide +kernel
theorem dX8_init_165 : decode cX8_init 165 = .ok (.newarray .int, 2) := by decide +kernel
theorem dX8_init_167 : decode cX8_init 167 = .ok (.putfield 69, 3) := by decide +kernel
theorem dX8_init_170 : decode cX8_init 170 = .ok (.aload_n 0, 1) := by decide +kernel
theorem dX8_init_171 : decode cX8_init 171 = .ok (.sipush 128, 3) := by decide +kernel
theorem dX8_init_174 : decode cX8_init 174 = .ok (.newarray .int, 2) := by decide +kernel
theorem dX8_init_176 : decode cX8_init 176 = .ok (.putfield 72, 3) := by decide +kernel
theorem dX8_init_179 : decode cX8_init 179 = .ok (.aload_n 0, 1) := by decide +kernel
theorem dX8_init_180 : decode cX8_init 180 = .ok (.sipush 128, 3) := by decide +kernel
theorem dX8_init_183 : decode cX8_init 183 = .ok (.newarray .int, 2) := by decide +kernel
theorem dX8_init_185 : decode cX8_init 185 = .ok (.putfield 75, 3) := by decide +kernel
theorem dX8_init_188 : decode cX8_init 188 = .ok (.aload_n 0, 1) := by decide +kernel
theorem dX8_init_189 : decode cX8_init 189 = .ok (.bipush 24, 2) := by decide +kernel
theorem dX8_init_191 : decode cX8_init 191 = .ok (.newarray .boolean, 2) := by decide +kernel
theorem dX8_init_193 : decode cX8_init 193 = .ok (.putfield 78, 3) := by decide +kernel
theorem dX8_init_196 : decode cX8_init 196 = .ok (.aload_n 0, 1) := by decide +kernel
theorem dX8_init_197 : decode cX8_init 197 = .ok (.bipush 24, 2) := by decide +kernel
theorem dX8_init_199 : decode cX8_init 199 = .ok (.newarray .int, 2) := by decide +kernel
theorem dX8_init_201 : decode cX8_init 201 = .ok (.putfield 81, 3) := by decide +kernel
theorem dX8_init_204 : decode cX8_init 204 = .ok (.aload_n 0, 1) := by decide +kernel
theorem dX8_init_205 : decode cX8_init 205 = .ok (.bipush 24, 2) := by decide +kernel
theorem dX8_init_207 : decode cX8_init 207 = .ok (.newarray .int, 2) := by decide +kernel
theorem dX8_init_209 : decode cX8_init 209 = .ok (.putfield 84, 3) := by decide +kernel
theorem dX8_init_212 : decode cX8_init 212 = .ok (.aload_n 0, 1) := by decide +kernel
theorem dX8_init_213 : decode cX8_init 213 = .ok (.bipush 24, 2) := by decide +kernel
theorem dX8_init_215 : decode cX8_init 215 = .ok (.newarray .int, 2) := by decide +kernel
theorem dX8_init_217 : decode cX8_init 217 = .ok (.putfield 87, 3) := by decide +kernel
theorem dX8_init_220 : decode cX8_init 220 = .ok (.aload_n 0, 1) := by decide +kernel
theorem dX8_init_221 : decode cX8_init 221 = .ok (.bipush 24, 2) := by decide +kernel
theorem dX8_init_223 : decode cX8_init 223 = .ok (.newarray .int, 2) := by decide +kernel
theorem dX8_init_225 : decode cX8_init 225 = .ok (.putfield 90, 3) := by decide +kernel
theorem dX8_init_228 : decode cX8_init 228 = .ok (.aload_n 0, 1) := by decide +kernel
theorem dX8_init_229 : decode cX8_init 229 = .ok (.bipush 24, 2) := by decide +kernel
theorem dX8_init_231 : decode cX8_init 231 = .ok (.newarray .int, 2) := by decide +kernel
theorem dX8_init_233 : decode cX8_init 233 = .ok (.putfield 93, 3) := by decide +kernel
theorem dX8_init_236 : decode cX8_init 236 = .ok (.aload_n 0, 1) := by decide +kernel
theorem dX8_init_237 : decode cX8_init 237 = .ok (.bipush 24, 2) := by decide +kernel
theorem dX8_init_239 : decode cX8_init 239 = .ok (.newarray .int, 2) := by decide +kernel
theorem dX8_init_241 : decode cX8_init 241 = .ok (.putfield 96, 3) := by decide +kernel
theorem dX8_init_244 : decode cX8_init 244 = .ok (.aload_n 0, 1) := by decide +kernel
theorem dX8_init_245 : decode cX8_init 245 = .ok (.bipush 24, 2) := by decide +kernel
theorem dX8_init_247 : decode cX8_init 247 = .ok (.newarray .int, 2) := by decide +kernel
theorem dX8_init_249 : decode cX8_init 249 = .ok (.putfield 99, 3) := by decide +kernel
theorem dX8_init_252 : decode cX8_init 252 = .ok (.aload_n 0, 1) := by decide +kernel
theorem dX8_init_253 : decode cX8_init 253 = .ok (.bipush 12, 2) := by decide +kernel
theorem dX8_init_255 : decode cX8_init 255 = .ok (.newarray .int, 2) := by decide +kernel
theorem dX8_init_257 : decode cX8_init 257 = .ok (.putfield 102, 3) := by decide +kernel
theorem dX8_init_260 : decode cX8_init 260 = .ok (.aload_n 0, 1) := by decide +kernel
theorem dX8_init_261 : decode cX8_init 261 = .ok (.bipush 12, 2) := by decide +kernel
theorem dX8_init_263 : decode cX8_init 263 = .ok (.newarray .int, 2) := by decide +kernel
theorem dX8_init_265 : decode cX8_init 265 = .ok (.putfield 105, 3) := by decide +kernel
theorem dX8_init_268 : decode cX8_init 268 = .ok (.aload_n 0, 1) := by decide +kernel
theorem dX8_init_269 : decode cX8_init 269 = .ok (.bipush 12, 2) := by decide +kernel
theorem dX8_init_271 : decode cX8_init 271 = .ok (.newarray .int, 2) := by decide +kernel
theorem dX8_init_273 : decode cX8_init 273 = .ok (.putfield 108, 3) := by decide +kernel
theorem dX8_init_276 : decode cX8_init 276 = .ok (.aload_n 0, 1) := by decide +kernel
theorem dX8_init_277 : decode cX8_init 277 = .ok (.sipush 480, 3) := by decide +kernel
theorem dX8_init_280 : decode cX8_init 280 = .ok (.newarray .long, 2) := by decide +kernel
theorem dX8_init_282 : decode cX8_init 282 = .ok (.putfield 111, 3) := by decide +kernel
theorem dX8_init_285 : decode cX8_init 285 = .ok (.aload_n 0, 1) := by decide +kernel
theorem dX8_init_286 : decode cX8_init 286 = .ok (.sipush 480, 3) := by decide +kernel
theorem dX8_init_289 : decode cX8_init 289 = .ok (.newarray .int, 2) := by decide +kernel
theorem dX8_init_291 : decode cX8_init 291 = .ok (.putfield 114, 3) := by decide +kernel
theorem dX8_init_294 : decode cX8_init 294 = .ok (.aload_n 0, 1) := by decide +kernel
theorem dX8_init_295 : decode cX8_init 295 = .ok (.sipush 30720, 3) := by decide +kernel
theorem dX8_init_298 : decode cX8_init 298 = .ok (.newarray .int, 2) := by decide +kernel
theorem dX8_init_300 : decode cX8_init 300 = .ok (.putfield 117, 3) := by decide +kernel
theorem dX8_init_303 : decode cX8_init 303 = .ok (.aload_n 0, 1) := by decide +kernel
theorem dX8_init_304 : decode cX8_init 304 = .ok (.bipush 12, 2) := by decide +kernel
theorem dX8_init_306 : decode cX8_init 306 = .ok (.newarray .int, 2) := by decide +kernel
theorem dX8_init_308 : decode cX8_init 308 = .ok (.putfield 120, 3) := by decide +kernel
theorem dX8_init_311 : decode cX8_init 311 = .ok (.aload_n 0, 1) := by decide +kernel
theorem dX8_init_312 : decode cX8_init 312 = .ok (.bipush 96, 2) := by decide +kernel
theorem dX8_init_314 : decode cX8_init 314 = .ok (.newarray .int, 2) := by decide +kernel
theorem dX8_init_316 : decode cX8_init 316 = .ok (.putfield 123, 3) := by decide +kernel
theorem dX8_init_319 : decode cX8_init 319 = .ok (.aload_n 0, 1) := by decide +kernel
theorem dX8_init_320 : decode cX8_init 320 = .ok (.bipush 96, 2) := by decide +kernel
theorem dX8_init_322 : decode cX8_init 322 = .ok (.newarray .int, 2) := by decide +kernel
theorem dX8_init_324 : decode cX8_init 324 = .ok (.putfield 126, 3) := by decide +kernel
theorem dX8_init_327 : decode cX8_init 327 = .ok (.aload_n 0, 1) := by decide +kernel
theorem dX8_init_328 : decode cX8_init 328 = .ok (.sipush 1536, 3) := by decide +kernel
theorem dX8_init_331 : decode cX8_init 331 = .ok (.newarray .int, 2) := by decide +kernel
theorem dX8_init_333 : decode cX8_init 333 = .ok (.putfield 129, 3) := by decide +kernel
theorem dX8_init_336 : decode cX8_init 336 = .ok (.aload_n 0, 1) := by decide +kernel
theorem dX8_init_337 : decode cX8_init 337 = .ok (.bipush 8, 2) := by decide +kernel
theorem dX8_init_339 : decode cX8_init 339 = .ok (.newarray .int, 2) := by decide +kernel
theorem dX8_init_341 : decode cX8_init 341 = .ok (.putfield 132, 3) := by decide +kernel
theorem dX8_init_344 : decode cX8_init 344 = .ok (.aload_n 0, 1) := by decide +kernel
theorem dX8_init_345 : decode cX8_init 345 = .ok (.bipush 8, 2) := by decide +kernel
theorem dX8_init_347 : decode cX8_init 347 = .ok (.newarray .int, 2) := by decide +kernel
theorem dX8_init_349 : decode cX8_init 349 = .ok (.putfield 135, 3) := by decide +kernel
theorem dX8_init_352 : decode cX8_init 352 = .ok (.return_, 1) := by decide +kernel
theorem dX8_in_0 : decode cX8_in 0 = .ok (.lload_n 0, 1) := by decide +kernel
theorem dX8_in_1 : decode cX8_in 1 = .ok (.lload_n 2, 1) := by decide +kernel
theorem dX8_in_2 : decode cX8_in 2 = .ok (.lcmp, 1) := by decide +kernel
theorem dX8_in_3 : decode cX8_in 3 = .ok (.ifCond .lt 14, 3) := by decide +kernel
theorem dX8_in_6 : decode cX8_in 6 = .ok (.lload_n 0, 1) := by decide +kernel
theorem dX8_in_7 : decode cX8_in 7 = .ok (.lload 4, 2) := by decide +kernel
theorem dX8_in_9 : decode cX8_in 9 = .ok (.lcmp, 1) := by decide +kernel
theorem dX8_in_10 : decode cX8_in 10 = .ok (.ifCond .gt 7, 3) := by decide +kernel
theorem dX8_in_13 : decode cX8_in 13 = .ok (.iconst 1, 1) := by decide +kernel
theorem dX8_in_14 : decode cX8_in 14 = .ok (.goto 4, 3) := by decide +kernel
theorem dX8_in_17 : decode cX8_in 17 = .ok (.iconst 0, 1) := by decide +kernel
theorem dX8_in_18 : decode cX8_in 18 = .ok (.ireturn, 1) := by decide +kernel
theorem dX8_isProcess_0 : decode cX8_isProcess 0 = .ok (.iload_n 1, 1) := by decide +kernel
theorem dX8_isProcess_1 : decode cX8_isProcess 1 = .ok (.i2l, 1) := by decide +kernel
theorem dX8_isProcess_2 : decode cX8_isProcess 2 = .ok (.lconst 0, 1) := by decide +kernel
theorem dX8_isProcess_3 : decode cX8_isProcess 3 = .ok (.aload_n 0, 1) := by decide +kernel
theorem dX8_isProcess_4 : decode cX8_isProcess 4 = .ok (.getfield 138, 3) := by decide +kernel
theorem dX8_isProcess_7 : decode cX8_isProcess 7 = .ok (.iconst 1, 1) := by decide +kernel
theorem dX8_isProcess_8 : decode cX8_isProcess 8 = .ok (.isub, 1) := by decide +kernel
theorem dX8_isProcess_9 : decode cX8_isProcess 9 = .ok (.i2l, 1) := by decide +kernel
theorem dX8_isProcess_10 : decode cX8_isProcess 10 = .ok (.invokestatic 142, 3) := by decide +kernel
theorem dX8_isProcess_13 : decode cX8_isProcess 13 = .ok (.ireturn, 1) := by decide +kernel
theorem dX8_isFree_0 : decode cX8_isFree 0 = .ok (.aload_n 0, 1) := by decide +kernel
theorem dX8_isFree_1 : decode cX8_isFree 1 = .ok (.getfield 16, 3) := by decide +kernel
theorem dX8_isFree_4 : decode cX8_isFree 4 = .ok (.iload_n 1, 1) := by decide +kernel
theorem dX8_isFree_5 : decode cX8_isFree 5 = .ok (.baload, 1) := by decide +kernel
theorem dX8_isFree_6 : decode cX8_isFree 6 = .ok (.ifCond .eq 16, 3) := by decide +kernel
theorem dX8_isFree_9 : decode cX8_isFree 9 = .ok (.aload_n 0, 1) := by decide +kernel
theorem dX8_isFree_10 : decode cX8_isFree 10 = .ok (.getfield 30, 3) := by decide +kernel
theorem dX8_isFree_13 : decode cX8_isFree 13 = .ok (.iload_n 1, 1) := by decide +kernel
theorem dX8_isFree_14 : decode cX8_isFree 14 = .ok (.iaload, 1) := by decide +kernel
theorem dX8_isFree_15 : decode cX8_isFree 15 = .ok (.ifCond .ne 7, 3) := by decide +kernel
theorem dX8_isFree_18 : decode cX8_isFree 18 = .ok (.iconst 1, 1) := by decide +kernel
theorem dX8_isFree_19 : decode cX8_isFree 19 = .ok (.goto 4, 3) := by decide +kernel
theorem dX8_isFree_22 : decode cX8_isFree 22 = .ok (.iconst 0, 1) := by decide +kernel
theorem dX8_isFree_23 : decode cX8_isFree 23 = .ok (.ireturn, 1) := by decide +kernel
theorem dX8_tells_0 : decode cX8_tells 0 = .ok (.aload_n 0, 1) := by decide +kernel
theorem dX8_tells_1 : decode cX8_tells 1 = .ok (.getfield 20, 3) := by decide +kernel
theorem dX8_tells_4 : decode cX8_tells 4 = .ok (.iload_n 1, 1) := by decide +kernel
theorem dX8_tells_5 : decode cX8_tells 5 = .ok (.iload_n 2, 1) := by decide +kernel
theorem dX8_tells_6 : decode cX8_tells 6 = .ok (.iastore, 1) := by decide +kernel
theorem dX8_tells_7 : decode cX8_tells 7 = .ok (.iload_n 2, 1) := by decide +kernel
theorem dX8_tells_8 : decode cX8_tells 8 = .ok (.ireturn, 1) := by decide +kernel
theorem dX8_slotOf_0 : decode cX8_slotOf 0 = .ok (.iload_n 1, 1) := by decide +kernel
theorem dX8_slotOf_1 : decode cX8_slotOf 1 = .ok (.ifCond .ge 5, 3) := by decide +kernel
theorem dX8_slotOf_4 : decode cX8_slotOf 4 = .ok (.iconst (-1), 1) := by decide +kernel
theorem dX8_slotOf_5 : decode cX8_slotOf 5 = .ok (.ireturn, 1) := by decide +kernel
theorem dX8_slotOf_6 : decode cX8_slotOf 6 = .ok (.iload_n 2, 1) := by decide +kernel
theorem dX8_slotOf_7 : decode cX8_slotOf 7 = .ok (.iload_n 1, 1) := by decide +kernel
theorem dX8_slotOf_8 : decode cX8_slotOf 8 = .ok (.bipush 12, 2) := by decide +kernel
theorem dX8_slotOf_10 : decode cX8_slotOf 10 = .ok (.irem, 1) := by decide +kernel
theorem dX8_slotOf_11 : decode cX8_slotOf 11 = .ok (.iadd, 1) := by decide +kernel
theorem dX8_slotOf_12 : decode cX8_slotOf 12 = .ok (.istore_n 3, 1) := by decide +kernel
theorem dX8_slotOf_13 : decode cX8_slotOf 13 = .ok (.aload_n 0, 1) := by decide +kernel
theorem dX8_slotOf_14 : decode cX8_slotOf 14 = .ok (.getfield 78, 3) := by decide +kernel
theorem dX8_slotOf_17 : decode cX8_slotOf 17 = .ok (.iload_n 3, 1) := by decide +kernel
theorem dX8_slotOf_18 : decode cX8_slotOf 18 = .ok (.baload, 1) := by decide +kernel
theorem dX8_slotOf_19 : decode cX8_slotOf 19 = .ok (.ifCond .eq 20, 3) := by decide +kernel
theorem dX8_slotOf_22 : decode cX8_slotOf 22 = .ok (.aload_n 0, 1) := by decide +kernel
theorem dX8_slotOf_23 : decode cX8_slotOf 23 = .ok (.getfield 81, 3) := by decide +kernel
theorem dX8_slotOf_26 : decode cX8_slotOf 26 = .ok (.iload_n 3, 1) := by decide +kernel
theorem dX8_slotOf_27 : decode cX8_slotOf 27 = .ok (.iaload, 1) := by decide +kernel
theorem dX8_slotOf_28 : decode cX8_slotOf 28 = .ok (.iload_n 1, 1) := by decide +kernel
theorem dX8_slotOf_29 : decode cX8_slotOf 29 = .ok (.bipush 12, 2) := by decide +kernel
theorem dX8_slotOf_31 : decode cX8_slotOf 31 = .ok (.idiv, 1) := by decide +kernel
theorem dX8_slotOf_32 : decode cX8_slotOf 32 = .ok (.if_icmp .ne 7, 3) := by decide +kernel
theorem dX8_slotOf_35 : decode cX8_slotOf 35 = .ok (.iload_n 3, 1) := by decide +kernel
theorem dX8_slotOf_36 : decode cX8_slotOf 36 = .ok (.goto 4, 3) := by decide +kernel
theorem dX8_slotOf_39 : decode cX8_slotOf 39 = .ok (.iconst (-1), 1) := by decide +kernel
theorem dX8_slotOf_40 : decode cX8_slotOf 40 = .ok (.ireturn, 1) := by decide +kernel
theorem dX8_idOf_0 : decode cX8_idOf 0 = .ok (.iload_n 1, 1) := by decide +kernel
theorem dX8_idOf_1 : decode cX8_idOf 1 = .ok (.bipush 12, 2) := by decide +kernel
theorem dX8_idOf_3 : decode cX8_idOf 3 = .ok (.irem, 1) := by decide +kernel
theorem dX8_idOf_4 : decode cX8_idOf 4 = .ok (.bipush 12, 2) := by decide +kernel
theorem dX8_idOf_6 : decode cX8_idOf 6 = .ok (.aload_n 0, 1) := by decide +kernel
theorem dX8_idOf_7 : decode cX8_idOf 7 = .ok (.getfield 81, 3) := by decide +kernel
theorem dX8_idOf_10 : decode cX8_idOf 10 = .ok (.iload_n 1, 1) := by decide +kernel
theorem dX8_idOf_11 : decode cX8_idOf 11 = .ok (.iaload, 1) := by decide +kernel
theorem dX8_idOf_12 : decode cX8_idOf 12 = .ok (.imul, 1) := by decide +kernel
theorem dX8_idOf_13 : decode cX8_idOf 13 = .ok (.iadd, 1) := by decide +kernel
theorem dX8_idOf_14 : decode cX8_idOf 14 = .ok (.ireturn, 1) := by decide +kernel
theorem dX8_may_0 : decode cX8_may 0 = .ok (.aload_n 0, 1) := by decide +kernel
theorem dX8_may_1 : decode cX8_may 1 = .ok (.getfield 7, 3) := by decide +kernel
theorem dX8_may_4 : decode cX8_may 4 = .ok (.iload_n 1, 1) := by decide +kernel
theorem dX8_may_5 : decode cX8_may 5 = .ok (.iaload, 1) := by decide +kernel
theorem dX8_may_6 : decode cX8_may 6 = .ok (.ifCond .ne 6, 3) := by decide +kernel
theorem dX8_may_9 : decode cX8_may 9 = .ok (.bipush 7, 2) := by decide +kernel
theorem dX8_may_11 : decode cX8_may 11 = .ok (.ireturn, 1) := by decide +kernel
theorem dX8_may_12 : decode cX8_may 12 = .ok (.aload_n 0, 1) := by decide +kernel
theorem dX8_may_13 : decode cX8_may 13 = .ok (.getfield 7, 3) := by decide +kernel
theorem dX8_may_16 : decode cX8_may 16 = .ok (.iload_n 1, 1) := by decide +kernel
theorem dX8_may_17 : decode cX8_may 17 = .ok (.iaload, 1) := by decide +kernel
theorem dX8_may_18 : decode cX8_may 18 = .ok (.aload_n 0, 1) := by decide +kernel
theorem dX8_may_19 : decode cX8_may 19 = .ok (.getfield 87, 3) := by decide +kernel
theorem dX8_may_22 : decode cX8_may 22 = .ok (.iload_n 2, 1) := by decide +kernel
theorem dX8_may_23 : decode cX8_may 23 = .ok (.iaload, 1) := by decide +kernel
theorem dX8_may_24 : decode cX8_may 24 = .ok (.if_icmp .eq 18, 3) := by decide +kernel
theorem dX8_may_27 : decode cX8_may 27 = .ok (.aload_n 0, 1) := by decide +kernel
theorem dX8_may_28 : decode cX8_may 28 = .ok (.getfield 7, 3) := by decide +kernel
theorem dX8_may_31 : decode cX8_may 31 = .ok (.iload_n 1, 1) := by decide +kernel
theorem dX8_may_32 : decode cX8_may 32 = .ok (.iaload, 1) := by decide +kernel
theorem dX8_may_33 : decode cX8_may 33 = .ok (.aload_n 0, 1) := by decide +kernel
theorem dX8_may_34 : decode cX8_may 34 = .ok (.getfield 93, 3) := by decide +kernel
theorem dX8_may_37 : decode cX8_may 37 = .ok (.iload_n 2, 1) := by decide +kernel
theorem dX8_may_38 : decode cX8_may 38 = .ok (.iaload, 1) := by decide +kernel
theorem dX8_may_39 : decode cX8_may 39 = .ok (.if_icmp .ne 16, 3) := by decide +kernel
theorem dX8_may_42 : decode cX8_may 42 = .ok (.aload_n 0, 1) := by decide +kernel
theorem dX8_may_43 : decode cX8_may 43 = .ok (.getfield 99, 3) := by decide +kernel
theorem dX8_may_46 : decode cX8_may 46 = .ok (.iload_n 2, 1) := by decide +kernel
theorem dX8_may_47 : decode cX8_may 47 = .ok (.iaload, 1) := by decide +kernel
theorem dX8_may_48 : decode cX8_may 48 = .ok (.bipush 6, 2) := by decide +kernel
theorem dX8_may_50 : decode cX8_may 50 = .ok (.ishr, 1) := by decide +kernel
theorem dX8_may_51 : decode cX8_may 51 = .ok (.bipush 7, 2) := by decide +kernel
theorem dX8_may_53 : decode cX8_may 53 = .ok (.iand, 1) := by decide +kernel
theorem dX8_may_54 : decode cX8_may 54 = .ok (.ireturn, 1) := by decide +kernel
theorem dX8_may_55 : decode cX8_may 55 = .ok (.aload_n 0, 1) := by decide +kernel
theorem dX8_may_56 : decode cX8_may 56 = .ok (.getfield 13, 3) := by decide +kernel
theorem dX8_may_59 : decode cX8_may 59 = .ok (.iload_n 1, 1) := by decide +kernel
theorem dX8_may_60 : decode cX8_may 60 = .ok (.iaload, 1) := by decide +kernel
theorem dX8_may_61 : decode cX8_may 61 = .ok (.aload_n 0, 1) := by decide +kernel
theorem dX8_may_62 : decode cX8_may 62 = .ok (.getfield 90, 3) := by decide +kernel
theorem dX8_may_65 : decode cX8_may 65 = .ok (.iload_n 2, 1) := by decide +kernel
theorem dX8_may_66 : decode cX8_may 66 = .ok (.iaload, 1) := by decide +kernel
theorem dX8_may_67 : decode cX8_may 67 = .ok (.if_icmp .eq 18, 3) := by decide +kernel
theorem dX8_may_70 : decode cX8_may 70 = .ok (.aload_n 0, 1) := by decide +kernel
theorem dX8_may_71 : decode cX8_may 71 = .ok (.getfield 13, 3) := by decide +kernel
theorem dX8_may_74 : decode cX8_may 74 = .ok (.iload_n 1, 1) := by decide +kernel
theorem dX8_may_75 : decode cX8_may 75 = .ok (.iaload, 1) := by decide +kernel
theorem dX8_may_76 : decode cX8_may 76 = .ok (.aload_n 0, 1) := by decide +kernel
theorem dX8_may_77 : decode cX8_may 77 = .ok (.getfield 96, 3) := by decide +kernel
theorem dX8_may_80 : decode cX8_may 80 = .ok (.iload_n 2, 1) := by decide +kernel
theorem dX8_may_81 : decode cX8_may 81 = .ok (.iaload, 1) := by decide +kernel
theorem dX8_may_82 : decode cX8_may 82 = .ok (.if_icmp .ne 15, 3) := by decide +kernel
theorem dX8_may_85 : decode cX8_may 85 = .ok (.aload_n 0, 1) := by decide +kernel
theorem dX8_may_86 : decode cX8_may 86 = .ok (.getfield 99, 3) := by decide +kernel
theorem dX8_may_89 : decode cX8_may 89 = .ok (.iload_n 2, 1) := by decide +kernel
theorem dX8_may_90 : decode cX8_may 90 = .ok (.iaload, 1) := by decide +kernel
theorem dX8_may_91 : decode cX8_may 91 = .ok (.iconst 3, 1) := by decide +kernel
theorem dX8_may_92 : decode cX8_may 92 = .ok (.ishr, 1) := by decide +kernel
theorem dX8_may_93 : decode cX8_may 93 = .ok (.bipush 7, 2) := by decide +kernel
theorem dX8_may_95 : decode cX8_may 95 = .ok (.iand, 1) := by decide +kernel
theorem dX8_may_96 : decode cX8_may 96 = .ok (.ireturn, 1) := by decide +kernel
theorem dX8_may_97 : decode cX8_may 97 = .ok (.aload_n 0, 1) := by decide +kernel
theorem dX8_may_98 : decode cX8_may 98 = .ok (.getfield 99, 3) := by decide +kernel
theorem dX8_may_101 : decode cX8_may 101 = .ok (.iload_n 2, 1) := by decide +kernel
theorem dX8_may_102 : decode cX8_may 102 = .ok (.iaload, 1) := by decide +kernel
theorem dX8_may_103 : decode cX8_may 103 = .ok (.bipush 7, 2) := by decide +kernel
theorem dX8_may_105 : decode cX8_may 105 = .ok (.iand, 1) := by decide +kernel
theorem dX8_may_106 : decode cX8_may 106 = .ok (.ireturn, 1) := by decide +kernel
theorem dX8_hasAll_0 : decode cX8_hasAll 0 = .ok (.aload_n 0, 1) := by decide +kernel
theorem dX8_hasAll_1 : decode cX8_hasAll 1 = .ok (.iload_n 1, 1) := by decide +kernel
theorem dX8_hasAll_2 : decode cX8_hasAll 2 = .ok (.iload_n 2, 1) := by decide +kernel
theorem dX8_hasAll_3 : decode cX8_hasAll 3 = .ok (.invokevirtual 146, 3) := by decide +kernel
theorem dX8_hasAll_6 : decode cX8_hasAll 6 = .ok (.iload_n 3, 1) := by decide +kernel
theorem dX8_hasAll_7 : decode cX8_hasAll 7 = .ok (.iand, 1) := by decide +kernel
theorem dX8_hasAll_8 : decode cX8_hasAll 8 = .ok (.iload_n 3, 1) := by decide +kernel
theorem dX8_hasAll_9 : decode cX8_hasAll 9 = .ok (.if_icmp .ne 7, 3) := by decide +kernel
theorem dX8_hasAll_12 : decode cX8_hasAll 12 = .ok (.iconst 1, 1) := by decide +kernel
theorem dX8_hasAll_13 : decode cX8_hasAll 13 = .ok (.goto 4, 3) := by decide +kernel
theorem dX8_hasAll_16 : decode cX8_hasAll 16 = .ok (.iconst 0, 1) := by decide +kernel
theorem dX8_hasAll_17 : decode cX8_hasAll 17 = .ok (.ireturn, 1) := by decide +kernel
theorem dX8_rules_0 : decode cX8_rules 0 = .ok (.aload_n 0, 1) := by decide +kernel
theorem dX8_rules_1 : decode cX8_rules 1 = .ok (.getfield 7, 3) := by decide +kernel
theorem dX8_rules_4 : decode cX8_rules 4 = .ok (.iload_n 1, 1) := by decide +kernel
theorem dX8_rules_5 : decode cX8_rules 5 = .ok (.iaload, 1) := by decide +kernel
theorem dX8_rules_6 : decode cX8_rules 6 = .ok (.ifCond .eq 33, 3) := by decide +kernel
theorem dX8_rules_9 : decode cX8_rules 9 = .ok (.aload_n 0, 1) := by decide +kernel
theorem dX8_rules_10 : decode cX8_rules 10 = .ok (.getfield 7, 3) := by decide +kernel
theorem dX8_rules_13 : decode cX8_rules 13 = .ok (.iload_n 1, 1) := by decide +kernel
theorem dX8_rules_14 : decode cX8_rules 14 = .ok (.iaload, 1) := by decide +kernel
theorem dX8_rules_15 : decode cX8_rules 15 = .ok (.aload_n 0, 1) := by decide +kernel
theorem dX8_rules_16 : decode cX8_rules 16 = .ok (.getfield 87, 3) := by decide +kernel
theorem dX8_rules_19 : decode cX8_rules 19 = .ok (.iload_n 2, 1) := by decide +kernel
theorem dX8_rules_20 : decode cX8_rules 20 = .ok (.iaload, 1) := by decide +kernel
theorem dX8_rules_21 : decode cX8_rules 21 = .ok (.if_icmp .eq 18, 3) := by decide +kernel
theorem dX8_rules_24 : decode cX8_rules 24 = .ok (.aload_n 0, 1) := by decide +kernel
theorem dX8_rules_25 : decode cX8_rules 25 = .ok (.getfield 7, 3) := by decide +kernel
theorem dX8_rules_28 : decode cX8_rules 28 = .ok (.iload_n 1, 1) := by decide +kernel
theorem dX8_rules_29 : decode cX8_rules 29 = .ok (.iaload, 1) := by decide +kernel
theorem dX8_rules_30 : decode cX8_rules 30 = .ok (.aload_n 0, 1) := by decide +kernel
theorem dX8_rules_31 : decode cX8_rules 31 = .ok (.getfield 93, 3) := by decide +kernel
theorem dX8_rules_34 : decode cX8_rules 34 = .ok (.iload_n 2, 1) := by decide +kernel
theorem dX8_rules_35 : decode cX8_rules 35 = .ok (.iaload, 1) := by decide +kernel
theorem dX8_rules_36 : decode cX8_rules 36 = .ok (.if_icmp .ne 7, 3) := by decide +kernel
theorem dX8_rules_39 : decode cX8_rules 39 = .ok (.iconst 1, 1) := by decide +kernel
theorem dX8_rules_40 : decode cX8_rules 40 = .ok (.goto 4, 3) := by decide +kernel
theorem dX8_rules_43 : decode cX8_rules 43 = .ok (.iconst 0, 1) := by decide +kernel
theorem dX8_rules_44 : decode cX8_rules 44 = .ok (.ireturn, 1) := by decide +kernel
theorem dX8_process_0 : decode cX8_process 0 = .ok (.iload_n 1, 1) := by decide +kernel
theorem dX8_process_1 : decode cX8_process 1 = .ok (.i2l, 1) := by decide +kernel
theorem dX8_process_2 : decode cX8_process 2 = .ok (.lconst 0, 1) := by decide +kernel
theorem dX8_process_3 : decode cX8_process 3 = .ok (.ldc2_w 150, 3) := by decide +kernel
theorem dX8_process_6 : decode cX8_process 6 = .ok (.invokestatic 142, 3) := by decide +kernel
theorem dX8_process_9 : decode cX8_process 9 = .ok (.ifCond .eq 15, 3) := by decide +kernel
theorem dX8_process_12 : decode cX8_process 12 = .ok (.iload_n 2, 1) := by decide +kernel
theorem dX8_process_13 : decode cX8_process 13 = .ok (.i2l, 1) := by decide +kernel
theorem dX8_process_14 : decode cX8_process 14 = .ok (.lconst 0, 1) := by decide +kernel
theorem dX8_process_15 : decode cX8_process 15 = .ok (.ldc2_w 150, 3) := by decide +kernel
theorem dX8_process_18 : decode cX8_process 18 = .ok (.invokestatic 142, 3) := by decide +kernel
theorem dX8_process_21 : decode cX8_process 21 = .ok (.ifCond .ne 6, 3) := by decide +kernel
theorem dX8_process_24 : decode cX8_process 24 = .ok (.bipush (-4), 2) := by decide +kernel
theorem dX8_process_26 : decode cX8_process 26 = .ok (.ireturn, 1) := by decide +kernel
theorem dX8_process_27 : decode cX8_process 27 = .ok (.aload_n 0, 1) := by decide +kernel
theorem dX8_process_28 : decode cX8_process 28 = .ok (.getfield 138, 3) := by decide +kernel
theorem dX8_process_31 : decode cX8_process 31 = .ok (.bipush 16, 2) := by decide +kernel
theorem dX8_process_33 : decode cX8_process 33 = .ok (.if_icmp .ne 6, 3) := by decide +kernel
theorem dX8_process_36 : decode cX8_process 36 = .ok (.bipush (-9), 2) := by decide +kernel
theorem dX8_process_38 : decode cX8_process 38 = .ok (.ireturn, 1) := by decide +kernel
theorem dX8_process_39 : decode cX8_process 39 = .ok (.aload_n 0, 1) := by decide +kernel
theorem dX8_process_40 : decode cX8_process 40 = .ok (.getfield 7, 3) := by decide +kernel
theorem dX8_process_43 : decode cX8_process 43 = .ok (.aload_n 0, 1) := by decide +kernel
theorem dX8_process_44 : decode cX8_process 44 = .ok (.getfield 138, 3) := by decide +kernel
theorem dX8_process_47 : decode cX8_process 47 = .ok (.iload_n 1, 1) := by decide +kernel
theorem dX8_process_48 : decode cX8_process 48 = .ok (.iastore, 1) := by decide +kernel
theorem dX8_process_49 : decode cX8_process 49 = .ok (.aload_n 0, 1) := by decide +kernel
theorem dX8_process_50 : decode cX8_process 50 = .ok (.getfield 13, 3) := by decide +kernel
theorem dX8_process_53 : decode cX8_process 53 = .ok (.aload_n 0, 1) := by decide +kernel
theorem dX8_process_54 : decode cX8_process 54 = .ok (.getfield 138, 3) := by decide +kernel
theorem dX8_process_57 : decode cX8_process 57 = .ok (.iload_n 2, 1) := by decide +kernel
theorem dX8_process_58 : decode cX8_process 58 = .ok (.iastore, 1) := by decide +kernel
theorem dX8_process_59 : decode cX8_process 59 = .ok (.aload_n 0, 1) := by decide +kernel
theorem dX8_process_60 : decode cX8_process 60 = .ok (.getfield 16, 3) := by decide +kernel
theorem dX8_process_63 : decode cX8_process 63 = .ok (.aload_n 0, 1) := by decide +kernel
theorem dX8_process_64 : decode cX8_process 64 = .ok (.getfield 138, 3) := by decide +kernel
theorem dX8_process_67 : decode cX8_process 67 = .ok (.iconst 1, 1) := by decide +kernel
theorem dX8_process_68 : decode cX8_process 68 = .ok (.bastore, 1) := by decide +kernel
theorem dX8_process_69 : decode cX8_process 69 = .ok (.aload_n 0, 1) := by decide +kernel
theorem dX8_process_70 : decode cX8_process 70 = .ok (.dup, 1) := by decide +kernel
theorem dX8_process_71 : decode cX8_process 71 = .ok (.getfield 138, 3) := by decide +kernel
theorem dX8_process_74 : decode cX8_process 74 = .ok (.iconst 1, 1) := by decide +kernel
theorem dX8_process_75 : decode cX8_process 75 = .ok (.iadd, 1) := by decide +kernel
theorem dX8_process_76 : decode cX8_process 76 = .ok (.putfield 138, 3) := by decide +kernel
theorem dX8_process_79 : decode cX8_process 79 = .ok (.aload_n 0, 1) := by decide +kernel
theorem dX8_process_80 : decode cX8_process 80 = .ok (.getfield 138, 3) := by decide +kernel
theorem dX8_process_83 : decode cX8_process 83 = .ok (.iconst 1, 1) := by decide +kernel
theorem dX8_process_84 : decode cX8_process 84 = .ok (.isub, 1) := by decide +kernel
theorem dX8_process_85 : decode cX8_process 85 = .ok (.ireturn, 1) := by decide +kernel
theorem dX8_goesOn_0 : decode cX8_goesOn 0 = .ok (.aload_n 0, 1) := by decide +kernel
theorem dX8_goesOn_1 : decode cX8_goesOn 1 = .ok (.getfield 30, 3) := by decide +kernel
theorem dX8_goesOn_4 : decode cX8_goesOn 4 = .ok (.iload_n 1, 1) := by decide +kernel
theorem dX8_goesOn_5 : decode cX8_goesOn 5 = .ok (.iconst 0, 1) := by decide +kernel
theorem dX8_goesOn_6 : decode cX8_goesOn 6 = .ok (.iastore, 1) := by decide +kernel
theorem dX8_goesOn_7 : decode cX8_goesOn 7 = .ok (.aload_n 0, 1) := by decide +kernel
theorem dX8_goesOn_8 : decode cX8_goesOn 8 = .ok (.getfield 20, 3) := by decide +kernel
theorem dX8_goesOn_11 : decode cX8_goesOn 11 = .ok (.iload_n 1, 1) := by decide +kernel
theorem dX8_goesOn_12 : decode cX8_goesOn 12 = .ok (.iload_n 2, 1) := by decide +kernel
theorem dX8_goesOn_13 : decode cX8_goesOn 13 = .ok (.iastore, 1) := by decide +kernel
theorem dX8_goesOn_14 : decode cX8_goesOn 14 = .ok (.return_, 1) := by decide +kernel
theorem dX8_exit_0 : decode cX8_exit 0 = .ok (.aload_n 0, 1) := by decide +kernel
theorem dX8_exit_1 : decode cX8_exit 1 = .ok (.iload_n 1, 1) := by decide +kernel
theorem dX8_exit_2 : decode cX8_exit 2 = .ok (.invokevirtual 152, 3) := by decide +kernel
theorem dX8_exit_5 : decode cX8_exit 5 = .ok (.ifCond .ne 6, 3) := by decide +kernel
theorem dX8_exit_8 : decode cX8_exit 8 = .ok (.bipush (-2), 2) := by decide +kernel
theorem dX8_exit_10 : decode cX8_exit 10 = .ok (.ireturn, 1) := by decide +kernel
theorem dX8_exit_11 : decode cX8_exit 11 = .ok (.aload_n 0, 1) := by decide +kernel
theorem dX8_exit_12 : decode cX8_exit 12 = .ok (.getfield 16, 3) := by decide +kernel
theorem dX8_exit_15 : decode cX8_exit 15 = .ok (.iload_n 1, 1) := by decide +kernel
theorem dX8_exit_16 : decode cX8_exit 16 = .ok (.baload, 1) := by decide +kernel
theorem dX8_exit_17 : decode cX8_exit 17 = .ok (.ifCond .ne 6, 3) := by decide +kernel
theorem dX8_exit_20 : decode cX8_exit 20 = .ok (.bipush (-3), 2) := by decide +kernel
theorem dX8_exit_22 : decode cX8_exit 22 = .ok (.ireturn, 1) := by decide +kernel
theorem dX8_exit_23 : decode cX8_exit 23 = .ok (.aload_n 0, 1) := by decide +kernel
theorem dX8_exit_24 : decode cX8_exit 24 = .ok (.getfield 30, 3) := by decide +kernel
theorem dX8_exit_27 : decode cX8_exit 27 = .ok (.iload_n 1, 1) := by decide +kernel
theorem dX8_exit_28 : decode cX8_exit 28 = .ok (.iaload, 1) := by decide +kernel
theorem dX8_exit_29 : decode cX8_exit 29 = .ok (.ifCond .eq 10, 3) := by decide +kernel
theorem dX8_exit_32 : decode cX8_exit 32 = .ok (.aload_n 0, 1) := by decide +kernel
theorem dX8_exit_33 : decode cX8_exit 33 = .ok (.iload_n 1, 1) := by decide +kernel
theorem dX8_exit_34 : decode cX8_exit 34 = .ok (.bipush (-16), 2) := by decide +kernel
theorem dX8_exit_36 : decode cX8_exit 36 = .ok (.invokevirtual 156, 3) := by decide +kernel
theorem dX8_exit_39 : decode cX8_exit 39 = .ok (.aload_n 0, 1) := by decide +kernel
theorem dX8_exit_40 : decode cX8_exit 40 = .ok (.getfield 16, 3) := by decide +kernel
theorem dX8_exit_43 : decode cX8_exit 43 = .ok (.iload_n 1, 1) := by decide +kernel
theorem dX8_exit_44 : decode cX8_exit 44 = .ok (.iconst 0, 1) := by decide +kernel
theorem dX8_exit_45 : decode cX8_exit 45 = .ok (.bastore, 1) := by decide +kernel
theorem dX8_exit_46 : decode cX8_exit 46 = .ok (.iconst 0, 1) := by decide +kernel
theorem dX8_exit_47 : decode cX8_exit 47 = .ok (.istore_n 2, 1) := by decide +kernel
theorem dX8_exit_48 : decode cX8_exit 48 = .ok (.iload_n 2, 1) := by decide +kernel
theorem dX8_exit_49 : decode cX8_exit 49 = .ok (.bipush 12, 2) := by decide +kernel
theorem dX8_exit_51 : decode cX8_exit 51 = .ok (.if_icmp .ge 192, 3) := by decide +kernel
theorem dX8_exit_54 : decode cX8_exit 54 = .ok (.aload_n 0, 1) := by decide +kernel
theorem dX8_exit_55 : decode cX8_exit 55 = .ok (.getfield 78, 3) := by decide +kernel
theorem dX8_exit_58 : decode cX8_exit 58 = .ok (.bipush 12, 2) := by decide +kernel
theorem dX8_exit_60 : decode cX8_exit 60 = .ok (.iload_n 2, 1) := by decide +kernel
theorem dX8_exit_61 : decode cX8_exit 61 = .ok (.iadd, 1) := by decide +kernel
theorem dX8_exit_62 : decode cX8_exit 62 = .ok (.baload, 1) := by decide +kernel
theorem dX8_exit_63 : decode cX8_exit 63 = .ok (.ifCond .eq 174, 3) := by decide +kernel
theorem dX8_exit_66 : decode cX8_exit 66 = .ok (.iconst 0, 1) := by decide +kernel
theorem dX8_exit_67 : decode cX8_exit 67 = .ok (.istore_n 3, 1) := by decide +kernel
theorem dX8_exit_68 : decode cX8_exit 68 = .ok (.iconst 0, 1) := by decide +kernel
theorem dX8_exit_69 : decode cX8_exit 69 = .ok (.istore 4, 2) := by decide +kernel
theorem dX8_exit_71 : decode cX8_exit 71 = .ok (.iload 4, 2) := by decide +kernel
theorem dX8_exit_73 : decode cX8_exit 73 = .ok (.aload_n 0, 1) := by decide +kernel
theorem dX8_exit_74 : decode cX8_exit 74 = .ok (.getfield 120, 3) := by decide +kernel
theorem dX8_exit_77 : decode cX8_exit 77 = .ok (.iload_n 2, 1) := by decide +kernel
theorem dX8_exit_78 : decode cX8_exit 78 = .ok (.iaload, 1) := by decide +kernel
theorem dX8_exit_79 : decode cX8_exit 79 = .ok (.if_icmp .ge 149, 3) := by decide +kernel
theorem dX8_exit_82 : decode cX8_exit 82 = .ok (.aload_n 0, 1) := by decide +kernel
theorem dX8_exit_83 : decode cX8_exit 83 = .ok (.getfield 129, 3) := by decide +kernel
theorem dX8_exit_86 : decode cX8_exit 86 = .ok (.bipush 96, 2) := by decide +kernel
theorem dX8_exit_88 : decode cX8_exit 88 = .ok (.iload_n 1, 1) := by decide +kernel
theorem dX8_exit_89 : decode cX8_exit 89 = .ok (.imul, 1) := by decide +kernel
theorem dX8_exit_90 : decode cX8_exit 90 = .ok (.bipush 8, 2) := by decide +kernel
theorem dX8_exit_92 : decode cX8_exit 92 = .ok (.iload_n 2, 1) := by decide +kernel
theorem dX8_exit_93 : decode cX8_exit 93 = .ok (.imul, 1) := by decide +kernel
theorem dX8_exit_94 : decode cX8_exit 94 = .ok (.iadd, 1) := by decide +kernel
theorem dX8_exit_95 : decode cX8_exit 95 = .ok (.iload 4, 2) := by decide +kernel
theorem dX8_exit_97 : decode cX8_exit 97 = .ok (.iadd, 1) := by decide +kernel
theorem dX8_exit_98 : decode cX8_exit 98 = .ok (.iaload, 1) := by decide +kernel
theorem dX8_exit_99 : decode cX8_exit 99 = .ok (.istore 5, 2) := by decide +kernel
theorem dX8_exit_101 : decode cX8_exit 101 = .ok (.iload 5, 2) := by decide +kernel
theorem dX8_exit_103 : decode cX8_exit 103 = .ok (.ifCond .eq 119, 3) := by decide +kernel
theorem dX8_exit_106 : decode cX8_exit 106 = .ok (.aload_n 0, 1) := by decide +kernel
theorem dX8_exit_107 : decode cX8_exit 107 = .ok (.getfield 123, 3) := by decide +kernel
theorem dX8_exit_110 : decode cX8_exit 110 = .ok (.bipush 8, 2) := by decide +kernel
theorem dX8_exit_112 : decode cX8_exit 112 = .ok (.iload_n 2, 1) := by decide +kernel
theorem dX8_exit_113 : decode cX8_exit 113 = .ok (.imul, 1) := by decide +kernel
theorem dX8_exit_114 : decode cX8_exit 114 = .ok (.iload 4, 2) := by decide +kernel
theorem dX8_exit_116 : decode cX8_exit 116 = .ok (.iadd, 1) := by decide +kernel
theorem dX8_exit_117 : decode cX8_exit 117 = .ok (.iaload, 1) := by decide +kernel
theorem dX8_exit_118 : decode cX8_exit 118 = .ok (.iload 5, 2) := by decide +kernel
theorem dX8_exit_120 : decode cX8_exit 120 = .ok (.iadd, 1) := by decide +kernel
theorem dX8_exit_121 : decode cX8_exit 121 = .ok (.istore 6, 2) := by decide +kernel
theorem dX8_exit_123 : decode cX8_exit 123 = .ok (.iload 6, 2) := by decide +kernel
theorem dX8_exit_125 : decode cX8_exit 125 = .ok (.ifCond .ge 7, 3) := by decide +kernel
theorem dX8_exit_128 : decode cX8_exit 128 = .ok (.iconst 0, 1) := by decide +kernel
theorem dX8_exit_129 : decode cX8_exit 129 = .ok (.goto 19, 3) := by decide +kernel
theorem dX8_exit_132 : decode cX8_exit 132 = .ok (.iload 6, 2) := by decide +kernel
theorem dX8_exit_134 : decode cX8_exit 134 = .ok (.sipush 32767, 3) := by decide +kernel
theorem dX8_exit_137 : decode cX8_exit 137 = .ok (.if_icmp .le 9, 3) := by decide +kernel
theorem dX8_exit_140 : decode cX8_exit 140 = .ok (.sipush 32767, 3) := by decide +kernel
theorem dX8_exit_143 : decode cX8_exit 143 = .ok (.goto 5, 3) := by decide +kernel
theorem dX8_exit_146 : decode cX8_exit 146 = .ok (.iload 6, 2) := by decide +kernel
theorem dX8_exit_148 : decode cX8_exit 148 = .ok (.istore 6, 2) := by decide +kernel
theorem dX8_exit_150 : decode cX8_exit 150 = .ok (.iload_n 3, 1) := by decide +kernel
theorem dX8_exit_151 : decode cX8_exit 151 = .ok (.ifCond .ne 20, 3) := by decide +kernel
theorem dX8_exit_154 : decode cX8_exit 154 = .ok (.iload 6, 2) := by decide +kernel
theorem dX8_exit_156 : decode cX8_exit 156 = .ok (.aload_n 0, 1) := by decide +kernel
theorem dX8_exit_157 : decode cX8_exit 157 = .ok (.getfield 123, 3) := by decide +kernel
theorem dX8_exit_160 : decode cX8_exit 160 = .ok (.bipush 8, 2) := by decide +kernel
theorem dX8_exit_162 : decode cX8_exit 162 = .ok (.iload_n 2, 1) := by decide +kernel
theorem dX8_exit_163 : decode cX8_exit 163 = .ok (.imul, 1) := by decide +kernel
theorem dX8_exit_164 : decode cX8_exit 164 = .ok (.iload 4, 2) := by decide +kernel
theorem dX8_exit_166 : decode cX8_exit 166 = .ok (.iadd, 1) := by decide +kernel
theorem dX8_exit_167 : decode cX8_exit 167 = .ok (.iaload, 1) := by decide +kernel
theorem dX8_exit_168 : decode cX8_exit 168 = .ok (.if_icmp .eq 7, 3) := by decide +kernel
theorem dX8_exit_171 : decode cX8_exit 171 = .ok (.iconst 1, 1) := by decide +kernel
theorem dX8_exit_172 : decode cX8_exit 172 = .ok (.goto 4, 3) := by decide +kernel
theorem dX8_exit_175 : decode cX8_exit 175 = .ok (.iconst 0, 1) := by decide +kernel
theorem dX8_exit_176 : decode cX8_exit 176 = .ok (.istore_n 3, 1) := by decide +kernel
theorem dX8_exit_177 : decode cX8_exit 177 = .ok (.aload_n 0, 1) := by decide +kernel
theorem dX8_exit_178 : decode cX8_exit 178 = .ok (.getfield 123, 3) := by decide +kernel
theorem dX8_exit_181 : decode cX8_exit 181 = .ok (.bipush 8, 2) := by decide +kernel
theorem dX8_exit_183 : decode cX8_exit 183 = .ok (.iload_n 2, 1) := by decide +kernel
theorem dX8_exit_184 : decode cX8_exit 184 = .ok (.imul, 1) := by decide +kernel
theorem dX8_exit_185 : decode cX8_exit 185 = .ok (.iload 4, 2) := by decide +kernel
theorem dX8_exit_187 : decode cX8_exit 187 = .ok (.iadd, 1) := by decide +kernel
theorem dX8_exit_188 : decode cX8_exit 188 = .ok (.iload 6, 2) := by decide +kernel
theorem dX8_exit_190 : decode cX8_exit 190 = .ok (.iastore, 1) := by decide +kernel
theorem dX8_exit_191 : decode cX8_exit 191 = .ok (.aload_n 0, 1) := by decide +kernel
theorem dX8_exit_192 : decode cX8_exit 192 = .ok (.getfield 126, 3) := by decide +kernel
theorem dX8_exit_195 : decode cX8_exit 195 = .ok (.bipush 8, 2) := by decide +kernel
theorem dX8_exit_197 : decode cX8_exit 197 = .ok (.iload_n 2, 1) := by decide +kernel
theorem dX8_exit_198 : decode cX8_exit 198 = .ok (.imul, 1) := by decide +kernel
theorem dX8_exit_199 : decode cX8_exit 199 = .ok (.iload 4, 2) := by decide +kernel
theorem dX8_exit_201 : decode cX8_exit 201 = .ok (.iadd, 1) := by decide +kernel
theorem dX8_exit_202 : decode cX8_exit 202 = .ok (.iload_n 1, 1) := by decide +kernel
theorem dX8_exit_203 : decode cX8_exit 203 = .ok (.iastore, 1) := by decide +kernel
theorem dX8_exit_204 : decode cX8_exit 204 = .ok (.aload_n 0, 1) := by decide +kernel
theorem dX8_exit_205 : decode cX8_exit 205 = .ok (.getfield 129, 3) := by decide +kernel
theorem dX8_exit_208 : decode cX8_exit 208 = .ok (.bipush 96, 2) := by decide +kernel
theorem dX8_exit_210 : decode cX8_exit 210 = .ok (.iload_n 1, 1) := by decide +kernel
theorem dX8_exit_211 : decode cX8_exit 211 = .ok (.imul, 1) := by decide +kernel
theorem dX8_exit_212 : decode cX8_exit 212 = .ok (.bipush 8, 2) := by decide +kernel
theorem dX8_exit_214 : decode cX8_exit 214 = .ok (.iload_n 2, 1) := by decide +kernel
theorem dX8_exit_215 : decode cX8_exit 215 = .ok (.imul, 1) := by decide +kernel
theorem dX8_exit_216 : decode cX8_exit 216 = .ok (.iadd, 1) := by decide +kernel
theorem dX8_exit_217 : decode cX8_exit 217 = .ok (.iload 4, 2) := by decide +kernel
theorem dX8_exit_219 : decode cX8_exit 219 = .ok (.iadd, 1) := by decide +kernel
theorem dX8_exit_220 : decode cX8_exit 220 = .ok (.iconst 0, 1) := by decide +kernel
theorem dX8_exit_221 : decode cX8_exit 221 = .ok (.iastore, 1) := by decide +kernel
theorem dX8_exit_222 : decode cX8_exit 222 = .ok (.iinc 4 1, 3) := by decide +kernel
theorem dX8_exit_225 : decode cX8_exit 225 = .ok (.goto (-154), 3) := by decide +kernel
theorem dX8_exit_228 : decode cX8_exit 228 = .ok (.iload_n 3, 1) := by decide +kernel
theorem dX8_exit_229 : decode cX8_exit 229 = .ok (.ifCond .eq 8, 3) := by decide +kernel
theorem dX8_exit_232 : decode cX8_exit 232 = .ok (.aload_n 0, 1) := by decide +kernel
theorem dX8_exit_233 : decode cX8_exit 233 = .ok (.iload_n 2, 1) := by decide +kernel
theorem dX8_exit_234 : decode cX8_exit 234 = .ok (.invokevirtual 160, 3) := by decide +kernel
theorem dX8_exit_237 : decode cX8_exit 237 = .ok (.iinc 2 1, 3) := by decide +kernel
theorem dX8_exit_240 : decode cX8_exit 240 = .ok (.goto (-192), 3) := by decide +kernel
theorem dX8_exit_243 : decode cX8_exit 243 = .ok (.iconst 1, 1) := by decide +kernel
theorem dX8_exit_244 : decode cX8_exit 244 = .ok (.ireturn, 1) := by decide +kernel
theorem dX8_signal_0 : decode cX8_signal 0 = .ok (.aload_n 0, 1) := by decide +kernel
theorem dX8_signal_1 : decode cX8_signal 1 = .ok (.iload_n 1, 1) := by decide +kernel
theorem dX8_signal_2 : decode cX8_signal 2 = .ok (.invokevirtual 152, 3) := by decide +kernel
theorem dX8_signal_5 : decode cX8_signal 5 = .ok (.ifCond .ne 6, 3) := by decide +kernel
theorem dX8_signal_8 : decode cX8_signal 8 = .ok (.bipush (-2), 2) := by decide +kernel
theorem dX8_signal_10 : decode cX8_signal 10 = .ok (.ireturn, 1) := by decide +kernel
theorem dX8_signal_11 : decode cX8_signal 11 = .ok (.aload_n 0, 1) := by decide +kernel
theorem dX8_signal_12 : decode cX8_signal 12 = .ok (.getfield 30, 3) := by decide +kernel
theorem dX8_signal_15 : decode cX8_signal 15 = .ok (.iload_n 1, 1) := by decide +kernel
theorem dX8_signal_16 : decode cX8_signal 16 = .ok (.iaload, 1) := by decide +kernel
theorem dX8_signal_17 : decode cX8_signal 17 = .ok (.ifCond .ne 6, 3) := by decide +kernel
theorem dX8_signal_20 : decode cX8_signal 20 = .ok (.bipush (-3), 2) := by decide +kernel
theorem dX8_signal_22 : decode cX8_signal 22 = .ok (.ireturn, 1) := by decide +kernel
theorem dX8_signal_23 : decode cX8_signal 23 = .ok (.aload_n 0, 1) := by decide +kernel
theorem dX8_signal_24 : decode cX8_signal 24 = .ok (.iload_n 1, 1) := by decide +kernel
theorem dX8_signal_25 : decode cX8_signal 25 = .ok (.bipush (-16), 2) := by decide +kernel
theorem dX8_signal_27 : decode cX8_signal 27 = .ok (.invokevirtual 156, 3) := by decide +kernel
theorem dX8_signal_30 : decode cX8_signal 30 = .ok (.iconst 1, 1) := by decide +kernel
theorem dX8_signal_31 : decode cX8_signal 31 = .ok (.ireturn, 1) := by decide +kernel
theorem dX8_result_0 : decode cX8_result 0 = .ok (.aload_n 0, 1) := by decide +kernel
theorem dX8_result_1 : decode cX8_result 1 = .ok (.iload_n 1, 1) := by decide +kernel
theorem dX8_result_2 : decode cX8_result 2 = .ok (.invokevirtual 152, 3) := by decide +kernel
theorem dX8_result_5 : decode cX8_result 5 = .ok (.ifCond .eq 12, 3) := by decide +kernel
theorem dX8_result_8 : decode cX8_result 8 = .ok (.aload_n 0, 1) := by decide +kernel
theorem dX8_result_9 : decode cX8_result 9 = .ok (.getfield 20, 3) := by decide +kernel
theorem dX8_result_12 : decode cX8_result 12 = .ok (.iload_n 1, 1) := by decide +kernel
theorem dX8_result_13 : decode cX8_result 13 = .ok (.iaload, 1) := by decide +kernel
theorem dX8_result_14 : decode cX8_result 14 = .ok (.goto 5, 3) := by decide +kernel
theorem dX8_result_17 : decode cX8_result 17 = .ok (.bipush (-2), 2) := by decide +kernel
theorem dX8_result_19 : decode cX8_result 19 = .ok (.ireturn, 1) := by decide +kernel
theorem dX8_area_0 : decode cX8_area 0 = .ok (.aload_n 0, 1) := by decide +kernel
theorem dX8_area_1 : decode cX8_area 1 = .ok (.iload_n 1, 1) := by decide +kernel
theorem dX8_area_2 : decode cX8_area 2 = .ok (.invokevirtual 152, 3) := by decide +kernel
theorem dX8_area_5 : decode cX8_area 5 = .ok (.ifCond .ne 6, 3) := by decide +kernel
theorem dX8_area_8 : decode cX8_area 8 = .ok (.bipush (-2), 2) := by decide +kernel
theorem dX8_area_10 : decode cX8_area 10 = .ok (.ireturn, 1) := by decide +kernel
theorem dX8_area_11 : decode cX8_area 11 = .ok (.iload_n 2, 1) := by decide +kernel
theorem dX8_area_12 : decode cX8_area 12 = .ok (.i2l, 1) := by decide +kernel
theorem dX8_area_13 : decode cX8_area 13 = .ok (.lconst 0, 1) := by decide +kernel
theorem dX8_area_14 : decode cX8_area 14 = .ok (.ldc2_w 164, 3) := by decide +kernel
theorem dX8_area_17 : decode cX8_area 17 = .ok (.invokestatic 142, 3) := by decide +kernel
theorem dX8_area_20 : decode cX8_area 20 = .ok (.ifCond .eq 15, 3) := by decide +kernel
theorem dX8_area_23 : decode cX8_area 23 = .ok (.iload_n 3, 1) := by decide +kernel
theorem dX8_area_24 : decode cX8_area 24 = .ok (.i2l, 1) := by decide +kernel
theorem dX8_area_25 : decode cX8_area 25 = .ok (.lconst 0, 1) := by decide +kernel
theorem dX8_area_26 : decode cX8_area 26 = .ok (.ldc2_w 166, 3) := by decide +kernel
theorem dX8_area_29 : decode cX8_area 29 = .ok (.invokestatic 142, 3) := by decide +kernel
theorem dX8_area_32 : decode cX8_area 32 = .ok (.ifCond .ne 6, 3) := by decide +kernel
theorem dX8_area_35 : decode cX8_area 35 = .ok (.bipush (-4), 2) := by decide +kernel
theorem dX8_area_37 : decode cX8_area 37 = .ok (.ireturn, 1) := by decide +kernel
theorem dX8_area_38 : decode cX8_area 38 = .ok (.aload_n 0, 1) := by decide +kernel
theorem dX8_area_39 : decode cX8_area 39 = .ok (.getfield 23, 3) := by decide +kernel
theorem dX8_area_42 : decode cX8_area 42 = .ok (.bipush 64, 2) := by decide +kernel
theorem dX8_area_44 : decode cX8_area 44 = .ok (.iload_n 1, 1) := by decide +kernel
theorem dX8_area_45 : decode cX8_area 45 = .ok (.imul, 1) := by decide +kernel
theorem dX8_area_46 : decode cX8_area 46 = .ok (.iload_n 2, 1) := by decide +kernel
theorem dX8_area_47 : decode cX8_area 47 = .ok (.iadd, 1) := by decide +kernel
theorem dX8_area_48 : decode cX8_area 48 = .ok (.iaload, 1) := by decide +kernel
theorem dX8_area_49 : decode cX8_area 49 = .ok (.istore 4, 2) := by decide +kernel
theorem dX8_area_51 : decode cX8_area 51 = .ok (.aload_n 0, 1) := by decide +kernel
theorem dX8_area_52 : decode cX8_area 52 = .ok (.getfield 23, 3) := by decide +kernel
theorem dX8_area_55 : decode cX8_area 55 = .ok (.bipush 64, 2) := by decide +kernel
theorem dX8_area_57 : decode cX8_area 57 = .ok (.iload_n 1, 1) := by decide +kernel
theorem dX8_area_58 : decode cX8_area 58 = .ok (.imul, 1) := by decide +kernel
theorem dX8_area_59 : decode cX8_area 59 = .ok (.iload_n 2, 1) := by decide +kernel
theorem dX8_area_60 : decode cX8_area 60 = .ok (.iadd, 1) := by decide +kernel
theorem dX8_area_61 : decode cX8_area 61 = .ok (.iload_n 3, 1) := by decide +kernel
theorem dX8_area_62 : decode cX8_area 62 = .ok (.iastore, 1) := by decide +kernel
theorem dX8_area_63 : decode cX8_area 63 = .ok (.iload 4, 2) := by decide +kernel
theorem dX8_area_65 : decode cX8_area 65 = .ok (.ireturn, 1) := by decide +kernel
theorem dX8_areaAt_0 : decode cX8_areaAt 0 = .ok (.aload_n 0, 1) := by decide +kernel
theorem dX8_areaAt_1 : decode cX8_areaAt 1 = .ok (.iload_n 1, 1) := by decide +kernel
theorem dX8_areaAt_2 : decode cX8_areaAt 2 = .ok (.invokevirtual 152, 3) := by decide +kernel
theorem dX8_areaAt_5 : decode cX8_areaAt 5 = .ok (.ifCond .ne 8, 3) := by decide +kernel
theorem dX8_areaAt_8 : decode cX8_areaAt 8 = .ok (.bipush (-2), 2) := by decide +kernel
theorem dX8_areaAt_10 : decode cX8_areaAt 10 = .ok (.goto 31, 3) := by decide +kernel
theorem dX8_areaAt_13 : decode cX8_areaAt 13 = .ok (.iload_n 2, 1) := by decide +kernel
theorem dX8_areaAt_14 : decode cX8_areaAt 14 = .ok (.i2l, 1) := by decide +kernel
theorem dX8_areaAt_15 : decode cX8_areaAt 15 = .ok (.lconst 0, 1) := by decide +kernel
theorem dX8_areaAt_16 : decode cX8_areaAt 16 = .ok (.ldc2_w 164, 3) := by decide +kernel
theorem dX8_areaAt_19 : decode cX8_areaAt 19 = .ok (.invokestatic 142, 3) := by decide +kernel
theorem dX8_areaAt_22 : decode cX8_areaAt 22 = .ok (.ifCond .eq 17, 3) := by decide +kernel
theorem dX8_areaAt_25 : decode cX8_areaAt 25 = .ok (.aload_n 0, 1) := by decide +kernel
theorem dX8_areaAt_26 : decode cX8_areaAt 26 = .ok (.getfield 23, 3) := by decide +kernel
theorem dX8_areaAt_29 : decode cX8_areaAt 29 = .ok (.bipush 64, 2) := by decide +kernel
theorem dX8_areaAt_31 : decode cX8_areaAt 31 = .ok (.iload_n 1, 1) := by decide +kernel
theorem dX8_areaAt_32 : decode cX8_areaAt 32 = .ok (.imul, 1) := by decide +kernel
theorem dX8_areaAt_33 : decode cX8_areaAt 33 = .ok (.iload_n 2, 1) := by decide +kernel
theorem dX8_areaAt_34 : decode cX8_areaAt 34 = .ok (.iadd, 1) := by decide +kernel

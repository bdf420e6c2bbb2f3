theorem dX8_areaAt_35 : decode cX8_areaAt 35 = .ok (.iaload, 1) := by decide +kernel
theorem dX8_areaAt_36 : decode cX8_areaAt 36 = .ok (.goto 5, 3) := by decide +kernel
theorem dX8_areaAt_39 : decode cX8_areaAt 39 = .ok (.bipush (-4), 2) := by decide +kernel
theorem dX8_areaAt_41 : decode cX8_areaAt 41 = .ok (.ireturn, 1) := by decide +kernel
theorem dX8_taken_0 : decode cX8_taken 0 = .ok (.aload_n 0, 1) := by decide +kernel
theorem dX8_taken_1 : decode cX8_taken 1 = .ok (.iload_n 1, 1) := by decide +kernel
theorem dX8_taken_2 : decode cX8_taken 2 = .ok (.invokevirtual 152, 3) := by decide +kernel
theorem dX8_taken_5 : decode cX8_taken 5 = .ok (.ifCond .eq 12, 3) := by decide +kernel
theorem dX8_taken_8 : decode cX8_taken 8 = .ok (.aload_n 0, 1) := by decide +kernel
theorem dX8_taken_9 : decode cX8_taken 9 = .ok (.getfield 26, 3) := by decide +kernel
theorem dX8_taken_12 : decode cX8_taken 12 = .ok (.iload_n 1, 1) := by decide +kernel
theorem dX8_taken_13 : decode cX8_taken 13 = .ok (.laload, 1) := by decide +kernel
theorem dX8_taken_14 : decode cX8_taken 14 = .ok (.goto 6, 3) := by decide +kernel
theorem dX8_taken_17 : decode cX8_taken 17 = .ok (.ldc2_w 168, 3) := by decide +kernel
theorem dX8_taken_20 : decode cX8_taken 20 = .ok (.lreturn, 1) := by decide +kernel
theorem dX8_waiter_0 : decode cX8_waiter 0 = .ok (.iconst (-1), 1) := by decide +kernel
theorem dX8_waiter_1 : decode cX8_waiter 1 = .ok (.istore 4, 2) := by decide +kernel
theorem dX8_waiter_3 : decode cX8_waiter 3 = .ok (.iconst 0, 1) := by decide +kernel
theorem dX8_waiter_4 : decode cX8_waiter 4 = .ok (.istore 5, 2) := by decide +kernel
theorem dX8_waiter_6 : decode cX8_waiter 6 = .ok (.iload 5, 2) := by decide +kernel
theorem dX8_waiter_8 : decode cX8_waiter 8 = .ok (.aload_n 0, 1) := by decide +kernel
theorem dX8_waiter_9 : decode cX8_waiter 9 = .ok (.getfield 138, 3) := by decide +kernel
theorem dX8_waiter_12 : decode cX8_waiter 12 = .ok (.if_icmp .ge 89, 3) := by decide +kernel
theorem dX8_waiter_15 : decode cX8_waiter 15 = .ok (.aload_n 0, 1) := by decide +kernel
theorem dX8_waiter_16 : decode cX8_waiter 16 = .ok (.getfield 30, 3) := by decide +kernel
theorem dX8_waiter_19 : decode cX8_waiter 19 = .ok (.iload 5, 2) := by decide +kernel
theorem dX8_waiter_21 : decode cX8_waiter 21 = .ok (.iaload, 1) := by decide +kernel
theorem dX8_waiter_22 : decode cX8_waiter 22 = .ok (.iload_n 1, 1) := by decide +kernel
theorem dX8_waiter_23 : decode cX8_waiter 23 = .ok (.if_icmp .ne 33, 3) := by decide +kernel
theorem dX8_waiter_26 : decode cX8_waiter 26 = .ok (.iload_n 2, 1) := by decide +kernel
theorem dX8_waiter_27 : decode cX8_waiter 27 = .ok (.ifCond .lt 14, 3) := by decide +kernel
theorem dX8_waiter_30 : decode cX8_waiter 30 = .ok (.aload_n 0, 1) := by decide +kernel
theorem dX8_waiter_31 : decode cX8_waiter 31 = .ok (.getfield 36, 3) := by decide +kernel
theorem dX8_waiter_34 : decode cX8_waiter 34 = .ok (.iload 5, 2) := by decide +kernel
theorem dX8_waiter_36 : decode cX8_waiter 36 = .ok (.iaload, 1) := by decide +kernel
theorem dX8_waiter_37 : decode cX8_waiter 37 = .ok (.iload_n 2, 1) := by decide +kernel
theorem dX8_waiter_38 : decode cX8_waiter 38 = .ok (.if_icmp .ne 18, 3) := by decide +kernel
theorem dX8_waiter_41 : decode cX8_waiter 41 = .ok (.aload_n 0, 1) := by decide +kernel
theorem dX8_waiter_42 : decode cX8_waiter 42 = .ok (.getfield 33, 3) := by decide +kernel
theorem dX8_waiter_45 : decode cX8_waiter 45 = .ok (.iload 5, 2) := by decide +kernel
theorem dX8_waiter_47 : decode cX8_waiter 47 = .ok (.iaload, 1) := by decide +kernel
theorem dX8_waiter_48 : decode cX8_waiter 48 = .ok (.iload_n 3, 1) := by decide +kernel
theorem dX8_waiter_49 : decode cX8_waiter 49 = .ok (.if_icmp .le 7, 3) := by decide +kernel
theorem dX8_waiter_52 : decode cX8_waiter 52 = .ok (.iconst 1, 1) := by decide +kernel
theorem dX8_waiter_53 : decode cX8_waiter 53 = .ok (.goto 4, 3) := by decide +kernel
theorem dX8_waiter_56 : decode cX8_waiter 56 = .ok (.iconst 0, 1) := by decide +kernel
theorem dX8_waiter_57 : decode cX8_waiter 57 = .ok (.istore 6, 2) := by decide +kernel
theorem dX8_waiter_59 : decode cX8_waiter 59 = .ok (.iload 6, 2) := by decide +kernel
theorem dX8_waiter_61 : decode cX8_waiter 61 = .ok (.ifCond .eq 30, 3) := by decide +kernel
theorem dX8_waiter_64 : decode cX8_waiter 64 = .ok (.iload 4, 2) := by decide +kernel
theorem dX8_waiter_66 : decode cX8_waiter 66 = .ok (.ifCond .lt 20, 3) := by decide +kernel
theorem dX8_waiter_69 : decode cX8_waiter 69 = .ok (.aload_n 0, 1) := by decide +kernel
theorem dX8_waiter_70 : decode cX8_waiter 70 = .ok (.getfield 33, 3) := by decide +kernel
theorem dX8_waiter_73 : decode cX8_waiter 73 = .ok (.iload 5, 2) := by decide +kernel
theorem dX8_waiter_75 : decode cX8_waiter 75 = .ok (.iaload, 1) := by decide +kernel
theorem dX8_waiter_76 : decode cX8_waiter 76 = .ok (.aload_n 0, 1) := by decide +kernel
theorem dX8_waiter_77 : decode cX8_waiter 77 = .ok (.getfield 33, 3) := by decide +kernel
theorem dX8_waiter_80 : decode cX8_waiter 80 = .ok (.iload 4, 2) := by decide +kernel
theorem dX8_waiter_82 : decode cX8_waiter 82 = .ok (.iaload, 1) := by decide +kernel
theorem dX8_waiter_83 : decode cX8_waiter 83 = .ok (.if_icmp .ge 8, 3) := by decide +kernel
theorem dX8_waiter_86 : decode cX8_waiter 86 = .ok (.iload 5, 2) := by decide +kernel
theorem dX8_waiter_88 : decode cX8_waiter 88 = .ok (.goto 5, 3) := by decide +kernel
theorem dX8_waiter_91 : decode cX8_waiter 91 = .ok (.iload 4, 2) := by decide +kernel
theorem dX8_waiter_93 : decode cX8_waiter 93 = .ok (.istore 4, 2) := by decide +kernel
theorem dX8_waiter_95 : decode cX8_waiter 95 = .ok (.iinc 5 1, 3) := by decide +kernel
theorem dX8_waiter_98 : decode cX8_waiter 98 = .ok (.goto (-92), 3) := by decide +kernel
theorem dX8_waiter_101 : decode cX8_waiter 101 = .ok (.iload 4, 2) := by decide +kernel
theorem dX8_waiter_103 : decode cX8_waiter 103 = .ok (.ireturn, 1) := by decide +kernel
theorem dX8_wait_0 : decode cX8_wait 0 = .ok (.aload_n 0, 1) := by decide +kernel
theorem dX8_wait_1 : decode cX8_wait 1 = .ok (.getfield 30, 3) := by decide +kernel
theorem dX8_wait_4 : decode cX8_wait 4 = .ok (.iload_n 1, 1) := by decide +kernel
theorem dX8_wait_5 : decode cX8_wait 5 = .ok (.iload_n 2, 1) := by decide +kernel
theorem dX8_wait_6 : decode cX8_wait 6 = .ok (.iastore, 1) := by decide +kernel
theorem dX8_wait_7 : decode cX8_wait 7 = .ok (.aload_n 0, 1) := by decide +kernel
theorem dX8_wait_8 : decode cX8_wait 8 = .ok (.getfield 36, 3) := by decide +kernel
theorem dX8_wait_11 : decode cX8_wait 11 = .ok (.iload_n 1, 1) := by decide +kernel
theorem dX8_wait_12 : decode cX8_wait 12 = .ok (.iload_n 3, 1) := by decide +kernel
theorem dX8_wait_13 : decode cX8_wait 13 = .ok (.iastore, 1) := by decide +kernel
theorem dX8_wait_14 : decode cX8_wait 14 = .ok (.aload_n 0, 1) := by decide +kernel
theorem dX8_wait_15 : decode cX8_wait 15 = .ok (.dup, 1) := by decide +kernel
theorem dX8_wait_16 : decode cX8_wait 16 = .ok (.getfield 170, 3) := by decide +kernel
theorem dX8_wait_19 : decode cX8_wait 19 = .ok (.iconst 1, 1) := by decide +kernel
theorem dX8_wait_20 : decode cX8_wait 20 = .ok (.iadd, 1) := by decide +kernel
theorem dX8_wait_21 : decode cX8_wait 21 = .ok (.putfield 170, 3) := by decide +kernel
theorem dX8_wait_24 : decode cX8_wait 24 = .ok (.aload_n 0, 1) := by decide +kernel
theorem dX8_wait_25 : decode cX8_wait 25 = .ok (.getfield 33, 3) := by decide +kernel
theorem dX8_wait_28 : decode cX8_wait 28 = .ok (.iload_n 1, 1) := by decide +kernel
theorem dX8_wait_29 : decode cX8_wait 29 = .ok (.aload_n 0, 1) := by decide +kernel
theorem dX8_wait_30 : decode cX8_wait 30 = .ok (.getfield 170, 3) := by decide +kernel
theorem dX8_wait_33 : decode cX8_wait 33 = .ok (.iastore, 1) := by decide +kernel
theorem dX8_wait_34 : decode cX8_wait 34 = .ok (.return_, 1) := by decide +kernel
theorem dX8_withKey_0 : decode cX8_withKey 0 = .ok (.iconst (-1), 1) := by decide +kernel
theorem dX8_withKey_1 : decode cX8_withKey 1 = .ok (.istore_n 3, 1) := by decide +kernel
theorem dX8_withKey_2 : decode cX8_withKey 2 = .ok (.iload_n 2, 1) := by decide +kernel
theorem dX8_withKey_3 : decode cX8_withKey 3 = .ok (.bipush 11, 2) := by decide +kernel
theorem dX8_withKey_5 : decode cX8_withKey 5 = .ok (.iadd, 1) := by decide +kernel
theorem dX8_withKey_6 : decode cX8_withKey 6 = .ok (.istore 4, 2) := by decide +kernel
theorem dX8_withKey_8 : decode cX8_withKey 8 = .ok (.iload 4, 2) := by decide +kernel
theorem dX8_withKey_10 : decode cX8_withKey 10 = .ok (.iload_n 2, 1) := by decide +kernel
theorem dX8_withKey_11 : decode cX8_withKey 11 = .ok (.if_icmp .lt 41, 3) := by decide +kernel
theorem dX8_withKey_14 : decode cX8_withKey 14 = .ok (.iload_n 1, 1) := by decide +kernel
theorem dX8_withKey_15 : decode cX8_withKey 15 = .ok (.ifCond .eq 29, 3) := by decide +kernel
theorem dX8_withKey_18 : decode cX8_withKey 18 = .ok (.aload_n 0, 1) := by decide +kernel
theorem dX8_withKey_19 : decode cX8_withKey 19 = .ok (.getfield 78, 3) := by decide +kernel
theorem dX8_withKey_22 : decode cX8_withKey 22 = .ok (.iload 4, 2) := by decide +kernel
theorem dX8_withKey_24 : decode cX8_withKey 24 = .ok (.baload, 1) := by decide +kernel
theorem dX8_withKey_25 : decode cX8_withKey 25 = .ok (.ifCond .eq 19, 3) := by decide +kernel
theorem dX8_withKey_28 : decode cX8_withKey 28 = .ok (.aload_n 0, 1) := by decide +kernel
theorem dX8_withKey_29 : decode cX8_withKey 29 = .ok (.getfield 84, 3) := by decide +kernel
theorem dX8_withKey_32 : decode cX8_withKey 32 = .ok (.iload 4, 2) := by decide +kernel
theorem dX8_withKey_34 : decode cX8_withKey 34 = .ok (.iaload, 1) := by decide +kernel
theorem dX8_withKey_35 : decode cX8_withKey 35 = .ok (.iload_n 1, 1) := by decide +kernel
theorem dX8_withKey_36 : decode cX8_withKey 36 = .ok (.if_icmp .ne 8, 3) := by decide +kernel
theorem dX8_withKey_39 : decode cX8_withKey 39 = .ok (.iload 4, 2) := by decide +kernel
theorem dX8_withKey_41 : decode cX8_withKey 41 = .ok (.goto 4, 3) := by decide +kernel
theorem dX8_withKey_44 : decode cX8_withKey 44 = .ok (.iload_n 3, 1) := by decide +kernel
theorem dX8_withKey_45 : decode cX8_withKey 45 = .ok (.istore_n 3, 1) := by decide +kernel
theorem dX8_withKey_46 : decode cX8_withKey 46 = .ok (.iinc 4 (-1), 3) := by decide +kernel
theorem dX8_withKey_49 : decode cX8_withKey 49 = .ok (.goto (-41), 3) := by decide +kernel
theorem dX8_withKey_52 : decode cX8_withKey 52 = .ok (.iload_n 3, 1) := by decide +kernel
theorem dX8_withKey_53 : decode cX8_withKey 53 = .ok (.ireturn, 1) := by decide +kernel
theorem dX8_freeSlot_0 : decode cX8_freeSlot 0 = .ok (.iconst (-1), 1) := by decide +kernel
theorem dX8_freeSlot_1 : decode cX8_freeSlot 1 = .ok (.istore_n 2, 1) := by decide +kernel
theorem dX8_freeSlot_2 : decode cX8_freeSlot 2 = .ok (.iload_n 1, 1) := by decide +kernel
theorem dX8_freeSlot_3 : decode cX8_freeSlot 3 = .ok (.bipush 11, 2) := by decide +kernel
theorem dX8_freeSlot_5 : decode cX8_freeSlot 5 = .ok (.iadd, 1) := by decide +kernel
theorem dX8_freeSlot_6 : decode cX8_freeSlot 6 = .ok (.istore_n 3, 1) := by decide +kernel
theorem dX8_freeSlot_7 : decode cX8_freeSlot 7 = .ok (.iload_n 3, 1) := by decide +kernel
theorem dX8_freeSlot_8 : decode cX8_freeSlot 8 = .ok (.iload_n 1, 1) := by decide +kernel
theorem dX8_freeSlot_9 : decode cX8_freeSlot 9 = .ok (.if_icmp .lt 24, 3) := by decide +kernel
theorem dX8_freeSlot_12 : decode cX8_freeSlot 12 = .ok (.aload_n 0, 1) := by decide +kernel
theorem dX8_freeSlot_13 : decode cX8_freeSlot 13 = .ok (.getfield 78, 3) := by decide +kernel
theorem dX8_freeSlot_16 : decode cX8_freeSlot 16 = .ok (.iload_n 3, 1) := by decide +kernel
theorem dX8_freeSlot_17 : decode cX8_freeSlot 17 = .ok (.baload, 1) := by decide +kernel
theorem dX8_freeSlot_18 : decode cX8_freeSlot 18 = .ok (.ifCond .eq 7, 3) := by decide +kernel
theorem dX8_freeSlot_21 : decode cX8_freeSlot 21 = .ok (.iload_n 2, 1) := by decide +kernel
theorem dX8_freeSlot_22 : decode cX8_freeSlot 22 = .ok (.goto 4, 3) := by decide +kernel
theorem dX8_freeSlot_25 : decode cX8_freeSlot 25 = .ok (.iload_n 3, 1) := by decide +kernel
theorem dX8_freeSlot_26 : decode cX8_freeSlot 26 = .ok (.istore_n 2, 1) := by decide +kernel
theorem dX8_freeSlot_27 : decode cX8_freeSlot 27 = .ok (.iinc 3 (-1), 3) := by decide +kernel
theorem dX8_freeSlot_30 : decode cX8_freeSlot 30 = .ok (.goto (-23), 3) := by decide +kernel
theorem dX8_freeSlot_33 : decode cX8_freeSlot 33 = .ok (.iload_n 2, 1) := by decide +kernel
theorem dX8_freeSlot_34 : decode cX8_freeSlot 34 = .ok (.ireturn, 1) := by decide +kernel
theorem dX8_wanted_0 : decode cX8_wanted 0 = .ok (.iload_n 0, 1) := by decide +kernel
theorem dX8_wanted_1 : decode cX8_wanted 1 = .ok (.bipush 6, 2) := by decide +kernel
theorem dX8_wanted_3 : decode cX8_wanted 3 = .ok (.ishr, 1) := by decide +kernel
theorem dX8_wanted_4 : decode cX8_wanted 4 = .ok (.iload_n 0, 1) := by decide +kernel
theorem dX8_wanted_5 : decode cX8_wanted 5 = .ok (.iconst 3, 1) := by decide +kernel
theorem dX8_wanted_6 : decode cX8_wanted 6 = .ok (.ishr, 1) := by decide +kernel
theorem dX8_wanted_7 : decode cX8_wanted 7 = .ok (.ior, 1) := by decide +kernel
theorem dX8_wanted_8 : decode cX8_wanted 8 = .ok (.iload_n 0, 1) := by decide +kernel
theorem dX8_wanted_9 : decode cX8_wanted 9 = .ok (.ior, 1) := by decide +kernel
theorem dX8_wanted_10 : decode cX8_wanted 10 = .ok (.bipush 7, 2) := by decide +kernel
theorem dX8_wanted_12 : decode cX8_wanted 12 = .ok (.iand, 1) := by decide +kernel
theorem dX8_wanted_13 : decode cX8_wanted 13 = .ok (.ireturn, 1) := by decide +kernel
theorem dX8_make_0 : decode cX8_make 0 = .ok (.aload_n 0, 1) := by decide +kernel
theorem dX8_make_1 : decode cX8_make 1 = .ok (.getfield 78, 3) := by decide +kernel
theorem dX8_make_4 : decode cX8_make 4 = .ok (.iload_n 2, 1) := by decide +kernel
theorem dX8_make_5 : decode cX8_make 5 = .ok (.iconst 1, 1) := by decide +kernel
theorem dX8_make_6 : decode cX8_make 6 = .ok (.bastore, 1) := by decide +kernel
theorem dX8_make_7 : decode cX8_make 7 = .ok (.aload_n 0, 1) := by decide +kernel
theorem dX8_make_8 : decode cX8_make 8 = .ok (.getfield 84, 3) := by decide +kernel
theorem dX8_make_11 : decode cX8_make 11 = .ok (.iload_n 2, 1) := by decide +kernel
theorem dX8_make_12 : decode cX8_make 12 = .ok (.iload_n 3, 1) := by decide +kernel
theorem dX8_make_13 : decode cX8_make 13 = .ok (.iastore, 1) := by decide +kernel
theorem dX8_make_14 : decode cX8_make 14 = .ok (.aload_n 0, 1) := by decide +kernel
theorem dX8_make_15 : decode cX8_make 15 = .ok (.getfield 87, 3) := by decide +kernel
theorem dX8_make_18 : decode cX8_make 18 = .ok (.iload_n 2, 1) := by decide +kernel
theorem dX8_make_19 : decode cX8_make 19 = .ok (.aload_n 0, 1) := by decide +kernel
theorem dX8_make_20 : decode cX8_make 20 = .ok (.getfield 7, 3) := by decide +kernel
theorem dX8_make_23 : decode cX8_make 23 = .ok (.iload_n 1, 1) := by decide +kernel
theorem dX8_make_24 : decode cX8_make 24 = .ok (.iaload, 1) := by decide +kernel
theorem dX8_make_25 : decode cX8_make 25 = .ok (.iastore, 1) := by decide +kernel
theorem dX8_make_26 : decode cX8_make 26 = .ok (.aload_n 0, 1) := by decide +kernel
theorem dX8_make_27 : decode cX8_make 27 = .ok (.getfield 90, 3) := by decide +kernel
theorem dX8_make_30 : decode cX8_make 30 = .ok (.iload_n 2, 1) := by decide +kernel
theorem dX8_make_31 : decode cX8_make 31 = .ok (.aload_n 0, 1) := by decide +kernel
theorem dX8_make_32 : decode cX8_make 32 = .ok (.getfield 13, 3) := by decide +kernel
theorem dX8_make_35 : decode cX8_make 35 = .ok (.iload_n 1, 1) := by decide +kernel
theorem dX8_make_36 : decode cX8_make 36 = .ok (.iaload, 1) := by decide +kernel
theorem dX8_make_37 : decode cX8_make 37 = .ok (.iastore, 1) := by decide +kernel
theorem dX8_make_38 : decode cX8_make 38 = .ok (.aload_n 0, 1) := by decide +kernel
theorem dX8_make_39 : decode cX8_make 39 = .ok (.getfield 93, 3) := by decide +kernel
theorem dX8_make_42 : decode cX8_make 42 = .ok (.iload_n 2, 1) := by decide +kernel
theorem dX8_make_43 : decode cX8_make 43 = .ok (.aload_n 0, 1) := by decide +kernel
theorem dX8_make_44 : decode cX8_make 44 = .ok (.getfield 7, 3) := by decide +kernel
theorem dX8_make_47 : decode cX8_make 47 = .ok (.iload_n 1, 1) := by decide +kernel
theorem dX8_make_48 : decode cX8_make 48 = .ok (.iaload, 1) := by decide +kernel
theorem dX8_make_49 : decode cX8_make 49 = .ok (.iastore, 1) := by decide +kernel
theorem dX8_make_50 : decode cX8_make 50 = .ok (.aload_n 0, 1) := by decide +kernel
theorem dX8_make_51 : decode cX8_make 51 = .ok (.getfield 96, 3) := by decide +kernel
theorem dX8_make_54 : decode cX8_make 54 = .ok (.iload_n 2, 1) := by decide +kernel
theorem dX8_make_55 : decode cX8_make 55 = .ok (.aload_n 0, 1) := by decide +kernel
theorem dX8_make_56 : decode cX8_make 56 = .ok (.getfield 13, 3) := by decide +kernel
theorem dX8_make_59 : decode cX8_make 59 = .ok (.iload_n 1, 1) := by decide +kernel
theorem dX8_make_60 : decode cX8_make 60 = .ok (.iaload, 1) := by decide +kernel
theorem dX8_make_61 : decode cX8_make 61 = .ok (.iastore, 1) := by decide +kernel
theorem dX8_make_62 : decode cX8_make 62 = .ok (.aload_n 0, 1) := by decide +kernel
theorem dX8_make_63 : decode cX8_make 63 = .ok (.getfield 99, 3) := by decide +kernel
theorem dX8_make_66 : decode cX8_make 66 = .ok (.iload_n 2, 1) := by decide +kernel
theorem dX8_make_67 : decode cX8_make 67 = .ok (.iload 4, 2) := by decide +kernel
theorem dX8_make_69 : decode cX8_make 69 = .ok (.sipush 511, 3) := by decide +kernel
theorem dX8_make_72 : decode cX8_make 72 = .ok (.iand, 1) := by decide +kernel
theorem dX8_make_73 : decode cX8_make 73 = .ok (.iastore, 1) := by decide +kernel
theorem dX8_make_74 : decode cX8_make 74 = .ok (.return_, 1) := by decide +kernel
theorem dX8_queue_0 : decode cX8_queue 0 = .ok (.aload_n 0, 1) := by decide +kernel
theorem dX8_queue_1 : decode cX8_queue 1 = .ok (.iload_n 1, 1) := by decide +kernel
theorem dX8_queue_2 : decode cX8_queue 2 = .ok (.invokevirtual 152, 3) := by decide +kernel
theorem dX8_queue_5 : decode cX8_queue 5 = .ok (.ifCond .ne 6, 3) := by decide +kernel
theorem dX8_queue_8 : decode cX8_queue 8 = .ok (.bipush (-2), 2) := by decide +kernel
theorem dX8_queue_10 : decode cX8_queue 10 = .ok (.ireturn, 1) := by decide +kernel
theorem dX8_queue_11 : decode cX8_queue 11 = .ok (.aload_n 0, 1) := by decide +kernel
theorem dX8_queue_12 : decode cX8_queue 12 = .ok (.iload_n 1, 1) := by decide +kernel
theorem dX8_queue_13 : decode cX8_queue 13 = .ok (.invokevirtual 173, 3) := by decide +kernel
theorem dX8_queue_16 : decode cX8_queue 16 = .ok (.ifCond .ne 6, 3) := by decide +kernel
theorem dX8_queue_19 : decode cX8_queue 19 = .ok (.bipush (-3), 2) := by decide +kernel
theorem dX8_queue_21 : decode cX8_queue 21 = .ok (.ireturn, 1) := by decide +kernel
theorem dX8_queue_22 : decode cX8_queue 22 = .ok (.iload_n 2, 1) := by decide +kernel
theorem dX8_queue_23 : decode cX8_queue 23 = .ok (.i2l, 1) := by decide +kernel
theorem dX8_queue_24 : decode cX8_queue 24 = .ok (.lconst 0, 1) := by decide +kernel
theorem dX8_queue_25 : decode cX8_queue 25 = .ok (.ldc2_w 176, 3) := by decide +kernel
theorem dX8_queue_28 : decode cX8_queue 28 = .ok (.invokestatic 142, 3) := by decide +kernel
theorem dX8_queue_31 : decode cX8_queue 31 = .ok (.ifCond .eq 15, 3) := by decide +kernel
theorem dX8_queue_34 : decode cX8_queue 34 = .ok (.iload_n 3, 1) := by decide +kernel
theorem dX8_queue_35 : decode cX8_queue 35 = .ok (.i2l, 1) := by decide +kernel
theorem dX8_queue_36 : decode cX8_queue 36 = .ok (.lconst 0, 1) := by decide +kernel
theorem dX8_queue_37 : decode cX8_queue 37 = .ok (.ldc2_w 178, 3) := by decide +kernel
theorem dX8_queue_40 : decode cX8_queue 40 = .ok (.invokestatic 142, 3) := by decide +kernel
theorem dX8_queue_43 : decode cX8_queue 43 = .ok (.ifCond .ne 11, 3) := by decide +kernel
theorem dX8_queue_46 : decode cX8_queue 46 = .ok (.aload_n 0, 1) := by decide +kernel
theorem dX8_queue_47 : decode cX8_queue 47 = .ok (.iload_n 1, 1) := by decide +kernel
theorem dX8_queue_48 : decode cX8_queue 48 = .ok (.bipush (-4), 2) := by decide +kernel
theorem dX8_queue_50 : decode cX8_queue 50 = .ok (.invokevirtual 180, 3) := by decide +kernel
theorem dX8_queue_53 : decode cX8_queue 53 = .ok (.ireturn, 1) := by decide +kernel
theorem dX8_queue_54 : decode cX8_queue 54 = .ok (.aload_n 0, 1) := by decide +kernel
theorem dX8_queue_55 : decode cX8_queue 55 = .ok (.iload_n 2, 1) := by decide +kernel
theorem dX8_queue_56 : decode cX8_queue 56 = .ok (.iconst 0, 1) := by decide +kernel
theorem dX8_queue_57 : decode cX8_queue 57 = .ok (.invokevirtual 183, 3) := by decide +kernel
theorem dX8_queue_60 : decode cX8_queue 60 = .ok (.istore 4, 2) := by decide +kernel
theorem dX8_queue_62 : decode cX8_queue 62 = .ok (.iload 4, 2) := by decide +kernel
theorem dX8_queue_64 : decode cX8_queue 64 = .ok (.iconst (-1), 1) := by decide +kernel
theorem dX8_queue_65 : decode cX8_queue 65 = .ok (.if_icmp .eq 53, 3) := by decide +kernel
theorem dX8_queue_68 : decode cX8_queue 68 = .ok (.iload_n 3, 1) := by decide +kernel
theorem dX8_queue_69 : decode cX8_queue 69 = .ok (.sipush 1536, 3) := by decide +kernel
theorem dX8_queue_72 : decode cX8_queue 72 = .ok (.iand, 1) := by decide +kernel
theorem dX8_queue_73 : decode cX8_queue 73 = .ok (.sipush 1536, 3) := by decide +kernel
theorem dX8_queue_76 : decode cX8_queue 76 = .ok (.if_icmp .ne 11, 3) := by decide +kernel
theorem dX8_queue_79 : decode cX8_queue 79 = .ok (.aload_n 0, 1) := by decide +kernel
theorem dX8_queue_80 : decode cX8_queue 80 = .ok (.iload_n 1, 1) := by decide +kernel
theorem dX8_queue_81 : decode cX8_queue 81 = .ok (.bipush (-7), 2) := by decide +kernel
theorem dX8_queue_83 : decode cX8_queue 83 = .ok (.invokevirtual 180, 3) := by decide +kernel
theorem dX8_queue_86 : decode cX8_queue 86 = .ok (.ireturn, 1) := by decide +kernel
theorem dX8_queue_87 : decode cX8_queue 87 = .ok (.aload_n 0, 1) := by decide +kernel
theorem dX8_queue_88 : decode cX8_queue 88 = .ok (.iload_n 1, 1) := by decide +kernel
theorem dX8_queue_89 : decode cX8_queue 89 = .ok (.aload_n 0, 1) := by decide +kernel
theorem dX8_queue_90 : decode cX8_queue 90 = .ok (.iload_n 1, 1) := by decide +kernel
theorem dX8_queue_91 : decode cX8_queue 91 = .ok (.iload 4, 2) := by decide +kernel
theorem dX8_queue_93 : decode cX8_queue 93 = .ok (.iload_n 3, 1) := by decide +kernel
theorem dX8_queue_94 : decode cX8_queue 94 = .ok (.invokestatic 186, 3) := by decide +kernel
theorem dX8_queue_97 : decode cX8_queue 97 = .ok (.invokevirtual 190, 3) := by decide +kernel
theorem dX8_queue_100 : decode cX8_queue 100 = .ok (.ifCond .eq 12, 3) := by decide +kernel
theorem dX8_queue_103 : decode cX8_queue 103 = .ok (.aload_n 0, 1) := by decide +kernel
theorem dX8_queue_104 : decode cX8_queue 104 = .ok (.iload 4, 2) := by decide +kernel
theorem dX8_queue_106 : decode cX8_queue 106 = .ok (.invokevirtual 194, 3) := by decide +kernel
theorem dX8_queue_109 : decode cX8_queue 109 = .ok (.goto 5, 3) := by decide +kernel
theorem dX8_queue_112 : decode cX8_queue 112 = .ok (.bipush (-6), 2) := by decide +kernel
theorem dX8_queue_114 : decode cX8_queue 114 = .ok (.invokevirtual 180, 3) := by decide +kernel
theorem dX8_queue_117 : decode cX8_queue 117 = .ok (.ireturn, 1) := by decide +kernel
theorem dX8_queue_118 : decode cX8_queue 118 = .ok (.iload_n 2, 1) := by decide +kernel
theorem dX8_queue_119 : decode cX8_queue 119 = .ok (.ifCond .eq 19, 3) := by decide +kernel
theorem dX8_queue_122 : decode cX8_queue 122 = .ok (.iload_n 3, 1) := by decide +kernel
theorem dX8_queue_123 : decode cX8_queue 123 = .ok (.sipush 512, 3) := by decide +kernel
theorem dX8_queue_126 : decode cX8_queue 126 = .ok (.iand, 1) := by decide +kernel
theorem dX8_queue_127 : decode cX8_queue 127 = .ok (.ifCond .ne 11, 3) := by decide +kernel
theorem dX8_queue_130 : decode cX8_queue 130 = .ok (.aload_n 0, 1) := by decide +kernel
theorem dX8_queue_131 : decode cX8_queue 131 = .ok (.iload_n 1, 1) := by decide +kernel
theorem dX8_queue_132 : decode cX8_queue 132 = .ok (.bipush (-8), 2) := by decide +kernel
theorem dX8_queue_134 : decode cX8_queue 134 = .ok (.invokevirtual 180, 3) := by decide +kernel
theorem dX8_queue_137 : decode cX8_queue 137 = .ok (.ireturn, 1) := by decide +kernel
theorem dX8_queue_138 : decode cX8_queue 138 = .ok (.aload_n 0, 1) := by decide +kernel
theorem dX8_queue_139 : decode cX8_queue 139 = .ok (.iconst 0, 1) := by decide +kernel
theorem dX8_queue_140 : decode cX8_queue 140 = .ok (.invokevirtual 197, 3) := by decide +kernel
theorem dX8_queue_143 : decode cX8_queue 143 = .ok (.istore 4, 2) := by decide +kernel
theorem dX8_queue_145 : decode cX8_queue 145 = .ok (.iload 4, 2) := by decide +kernel
theorem dX8_queue_147 : decode cX8_queue 147 = .ok (.iconst (-1), 1) := by decide +kernel
theorem dX8_queue_148 : decode cX8_queue 148 = .ok (.if_icmp .ne 11, 3) := by decide +kernel
theorem dX8_queue_151 : decode cX8_queue 151 = .ok (.aload_n 0, 1) := by decide +kernel
theorem dX8_queue_152 : decode cX8_queue 152 = .ok (.iload_n 1, 1) := by decide +kernel
theorem dX8_queue_153 : decode cX8_queue 153 = .ok (.bipush (-9), 2) := by decide +kernel
theorem dX8_queue_155 : decode cX8_queue 155 = .ok (.invokevirtual 180, 3) := by decide +kernel
theorem dX8_queue_158 : decode cX8_queue 158 = .ok (.ireturn, 1) := by decide +kernel
theorem dX8_queue_159 : decode cX8_queue 159 = .ok (.aload_n 0, 1) := by decide +kernel
theorem dX8_queue_160 : decode cX8_queue 160 = .ok (.iload_n 1, 1) := by decide +kernel
theorem dX8_queue_161 : decode cX8_queue 161 = .ok (.iload 4, 2) := by decide +kernel
theorem dX8_queue_163 : decode cX8_queue 163 = .ok (.iload_n 2, 1) := by decide +kernel
theorem dX8_queue_164 : decode cX8_queue 164 = .ok (.iload_n 3, 1) := by decide +kernel
theorem dX8_queue_165 : decode cX8_queue 165 = .ok (.invokevirtual 200, 3) := by decide +kernel
theorem dX8_queue_168 : decode cX8_queue 168 = .ok (.aload_n 0, 1) := by decide +kernel
theorem dX8_queue_169 : decode cX8_queue 169 = .ok (.getfield 102, 3) := by decide +kernel
theorem dX8_queue_172 : decode cX8_queue 172 = .ok (.iload 4, 2) := by decide +kernel
theorem dX8_queue_174 : decode cX8_queue 174 = .ok (.iconst 0, 1) := by decide +kernel
theorem dX8_queue_175 : decode cX8_queue 175 = .ok (.iastore, 1) := by decide +kernel
theorem dX8_queue_176 : decode cX8_queue 176 = .ok (.aload_n 0, 1) := by decide +kernel
theorem dX8_queue_177 : decode cX8_queue 177 = .ok (.getfield 105, 3) := by decide +kernel
theorem dX8_queue_180 : decode cX8_queue 180 = .ok (.iload 4, 2) := by decide +kernel
theorem dX8_queue_182 : decode cX8_queue 182 = .ok (.sipush 256, 3) := by decide +kernel
theorem dX8_queue_185 : decode cX8_queue 185 = .ok (.iastore, 1) := by decide +kernel
theorem dX8_queue_186 : decode cX8_queue 186 = .ok (.aload_n 0, 1) := by decide +kernel
theorem dX8_queue_187 : decode cX8_queue 187 = .ok (.getfield 108, 3) := by decide +kernel
theorem dX8_queue_190 : decode cX8_queue 190 = .ok (.iload 4, 2) := by decide +kernel
theorem dX8_queue_192 : decode cX8_queue 192 = .ok (.iconst 0, 1) := by decide +kernel
theorem dX8_queue_193 : decode cX8_queue 193 = .ok (.iastore, 1) := by decide +kernel
theorem dX8_queue_194 : decode cX8_queue 194 = .ok (.aload_n 0, 1) := by decide +kernel
theorem dX8_queue_195 : decode cX8_queue 195 = .ok (.iload_n 1, 1) := by decide +kernel
theorem dX8_queue_196 : decode cX8_queue 196 = .ok (.aload_n 0, 1) := by decide +kernel
theorem dX8_queue_197 : decode cX8_queue 197 = .ok (.iload 4, 2) := by decide +kernel
theorem dX8_queue_199 : decode cX8_queue 199 = .ok (.invokevirtual 194, 3) := by decide +kernel
theorem dX8_queue_202 : decode cX8_queue 202 = .ok (.invokevirtual 180, 3) := by decide +kernel
theorem dX8_queue_205 : decode cX8_queue 205 = .ok (.ireturn, 1) := by decide +kernel
theorem dX8_set_0 : decode cX8_set 0 = .ok (.aload_n 0, 1) := by decide +kernel
theorem dX8_set_1 : decode cX8_set 1 = .ok (.iload_n 1, 1) := by decide +kernel
theorem dX8_set_2 : decode cX8_set 2 = .ok (.invokevirtual 152, 3) := by decide +kernel
theorem dX8_set_5 : decode cX8_set 5 = .ok (.ifCond .ne 6, 3) := by decide +kernel
theorem dX8_set_8 : decode cX8_set 8 = .ok (.bipush (-2), 2) := by decide +kernel
theorem dX8_set_10 : decode cX8_set 10 = .ok (.ireturn, 1) := by decide +kernel
theorem dX8_set_11 : decode cX8_set 11 = .ok (.aload_n 0, 1) := by decide +kernel
theorem dX8_set_12 : decode cX8_set 12 = .ok (.iload_n 1, 1) := by decide +kernel
theorem dX8_set_13 : decode cX8_set 13 = .ok (.invokevirtual 173, 3) := by decide +kernel
theorem dX8_set_16 : decode cX8_set 16 = .ok (.ifCond .ne 6, 3) := by decide +kernel
theorem dX8_set_19 : decode cX8_set 19 = .ok (.bipush (-3), 2) := by decide +kernel
theorem dX8_set_21 : decode cX8_set 21 = .ok (.ireturn, 1) := by decide +kernel
theorem dX8_set_22 : decode cX8_set 22 = .ok (.iload_n 2, 1) := by decide +kernel
theorem dX8_set_23 : decode cX8_set 23 = .ok (.i2l, 1) := by decide +kernel
theorem dX8_set_24 : decode cX8_set 24 = .ok (.lconst 0, 1) := by decide +kernel
theorem dX8_set_25 : decode cX8_set 25 = .ok (.ldc2_w 176, 3) := by decide +kernel
theorem dX8_set_28 : decode cX8_set 28 = .ok (.invokestatic 142, 3) := by decide +kernel
theorem dX8_set_31 : decode cX8_set 31 = .ok (.ifCond .eq 28, 3) := by decide +kernel
theorem dX8_set_34 : decode cX8_set 34 = .ok (.iload 4, 2) := by decide +kernel
theorem dX8_set_36 : decode cX8_set 36 = .ok (.i2l, 1) := by decide +kernel
theorem dX8_set_37 : decode cX8_set 37 = .ok (.lconst 0, 1) := by decide +kernel
theorem dX8_set_38 : decode cX8_set 38 = .ok (.ldc2_w 178, 3) := by decide +kernel
theorem dX8_set_41 : decode cX8_set 41 = .ok (.invokestatic 142, 3) := by decide +kernel
theorem dX8_set_44 : decode cX8_set 44 = .ok (.ifCond .eq 15, 3) := by decide +kernel
theorem dX8_set_47 : decode cX8_set 47 = .ok (.iload_n 3, 1) := by decide +kernel
theorem dX8_set_48 : decode cX8_set 48 = .ok (.i2l, 1) := by decide +kernel
theorem dX8_set_49 : decode cX8_set 49 = .ok (.lconst 0, 1) := by decide +kernel
theorem dX8_set_50 : decode cX8_set 50 = .ok (.ldc2_w 204, 3) := by decide +kernel
theorem dX8_set_53 : decode cX8_set 53 = .ok (.invokestatic 142, 3) := by decide +kernel
theorem dX8_set_56 : decode cX8_set 56 = .ok (.ifCond .ne 11, 3) := by decide +kernel
theorem dX8_set_59 : decode cX8_set 59 = .ok (.aload_n 0, 1) := by decide +kernel
theorem dX8_set_60 : decode cX8_set 60 = .ok (.iload_n 1, 1) := by decide +kernel
theorem dX8_set_61 : decode cX8_set 61 = .ok (.bipush (-4), 2) := by decide +kernel
theorem dX8_set_63 : decode cX8_set 63 = .ok (.invokevirtual 180, 3) := by decide +kernel
theorem dX8_set_66 : decode cX8_set 66 = .ok (.ireturn, 1) := by decide +kernel
theorem dX8_set_67 : decode cX8_set 67 = .ok (.aload_n 0, 1) := by decide +kernel
theorem dX8_set_68 : decode cX8_set 68 = .ok (.iload_n 2, 1) := by decide +kernel
theorem dX8_set_69 : decode cX8_set 69 = .ok (.bipush 12, 2) := by decide +kernel
theorem dX8_set_71 : decode cX8_set 71 = .ok (.invokevirtual 183, 3) := by decide +kernel
theorem dX8_set_74 : decode cX8_set 74 = .ok (.istore 5, 2) := by decide +kernel
theorem dX8_set_76 : decode cX8_set 76 = .ok (.iload 5, 2) := by decide +kernel
theorem dX8_set_78 : decode cX8_set 78 = .ok (.iconst (-1), 1) := by decide +kernel
theorem dX8_set_79 : decode cX8_set 79 = .ok (.if_icmp .eq 77, 3) := by decide +kernel
theorem dX8_set_82 : decode cX8_set 82 = .ok (.iload 4, 2) := by decide +kernel
theorem dX8_set_84 : decode cX8_set 84 = .ok (.sipush 1536, 3) := by decide +kernel
theorem dX8_set_87 : decode cX8_set 87 = .ok (.iand, 1) := by decide +kernel
theorem dX8_set_88 : decode cX8_set 88 = .ok (.sipush 1536, 3) := by decide +kernel
theorem dX8_set_91 : decode cX8_set 91 = .ok (.if_icmp .ne 11, 3) := by decide +kernel
theorem dX8_set_94 : decode cX8_set 94 = .ok (.aload_n 0, 1) := by decide +kernel
theorem dX8_set_95 : decode cX8_set 95 = .ok (.iload_n 1, 1) := by decide +kernel
theorem dX8_set_96 : decode cX8_set 96 = .ok (.bipush (-7), 2) := by decide +kernel
theorem dX8_set_98 : decode cX8_set 98 = .ok (.invokevirtual 180, 3) := by decide +kernel
theorem dX8_set_101 : decode cX8_set 101 = .ok (.ireturn, 1) := by decide +kernel
theorem dX8_set_102 : decode cX8_set 102 = .ok (.iload_n 3, 1) := by decide +kernel
theorem dX8_set_103 : decode cX8_set 103 = .ok (.aload_n 0, 1) := by decide +kernel
theorem dX8_set_104 : decode cX8_set 104 = .ok (.getfield 120, 3) := by decide +kernel
theorem dX8_set_107 : decode cX8_set 107 = .ok (.iload 5, 2) := by decide +kernel
theorem dX8_set_109 : decode cX8_set 109 = .ok (.bipush 12, 2) := by decide +kernel
theorem dX8_set_111 : decode cX8_set 111 = .ok (.isub, 1) := by decide +kernel
theorem dX8_set_112 : decode cX8_set 112 = .ok (.iaload, 1) := by decide +kernel
theorem dX8_set_113 : decode cX8_set 113 = .ok (.if_icmp .le 11, 3) := by decide +kernel
theorem dX8_set_116 : decode cX8_set 116 = .ok (.aload_n 0, 1) := by decide +kernel
theorem dX8_set_117 : decode cX8_set 117 = .ok (.iload_n 1, 1) := by decide +kernel
theorem dX8_set_118 : decode cX8_set 118 = .ok (.bipush (-5), 2) := by decide +kernel
theorem dX8_set_120 : decode cX8_set 120 = .ok (.invokevirtual 180, 3) := by decide +kernel
theorem dX8_set_123 : decode cX8_set 123 = .ok (.ireturn, 1) := by decide +kernel
theorem dX8_set_124 : decode cX8_set 124 = .ok (.aload_n 0, 1) := by decide +kernel
theorem dX8_set_125 : decode cX8_set 125 = .ok (.iload_n 1, 1) := by decide +kernel
theorem dX8_set_126 : decode cX8_set 126 = .ok (.aload_n 0, 1) := by decide +kernel
theorem dX8_set_127 : decode cX8_set 127 = .ok (.iload_n 1, 1) := by decide +kernel
theorem dX8_set_128 : decode cX8_set 128 = .ok (.iload 5, 2) := by decide +kernel
theorem dX8_set_130 : decode cX8_set 130 = .ok (.iload 4, 2) := by decide +kernel
theorem dX8_set_132 : decode cX8_set 132 = .ok (.invokestatic 186, 3) := by decide +kernel
theorem dX8_set_135 : decode cX8_set 135 = .ok (.invokevirtual 190, 3) := by decide +kernel
theorem dX8_set_138 : decode cX8_set 138 = .ok (.ifCond .eq 12, 3) := by decide +kernel
theorem dX8_set_141 : decode cX8_set 141 = .ok (.aload_n 0, 1) := by decide +kernel
theorem dX8_set_142 : decode cX8_set 142 = .ok (.iload 5, 2) := by decide +kernel
theorem dX8_set_144 : decode cX8_set 144 = .ok (.invokevirtual 194, 3) := by decide +kernel
theorem dX8_set_147 : decode cX8_set 147 = .ok (.goto 5, 3) := by decide +kernel
theorem dX8_set_150 : decode cX8_set 150 = .ok (.bipush (-6), 2) := by decide +kernel
theorem dX8_set_152 : decode cX8_set 152 = .ok (.invokevirtual 180, 3) := by decide +kernel
theorem dX8_set_155 : decode cX8_set 155 = .ok (.ireturn, 1) := by decide +kernel
theorem dX8_set_156 : decode cX8_set 156 = .ok (.iload_n 2, 1) := by decide +kernel
theorem dX8_set_157 : decode cX8_set 157 = .ok (.ifCond .eq 20, 3) := by decide +kernel
theorem dX8_set_160 : decode cX8_set 160 = .ok (.iload 4, 2) := by decide +kernel
theorem dX8_set_162 : decode cX8_set 162 = .ok (.sipush 512, 3) := by decide +kernel
theorem dX8_set_165 : decode cX8_set 165 = .ok (.iand, 1) := by decide +kernel
theorem dX8_set_166 : decode cX8_set 166 = .ok (.ifCond .ne 11, 3) := by decide +kernel
theorem dX8_set_169 : decode cX8_set 169 = .ok (.aload_n 0, 1) := by decide +kernel
theorem dX8_set_170 : decode cX8_set 170 = .ok (.iload_n 1, 1) := by decide +kernel
theorem dX8_set_171 : decode cX8_set 171 = .ok (.bipush (-8), 2) := by decide +kernel
theorem dX8_set_173 : decode cX8_set 173 = .ok (.invokevirtual 180, 3) := by decide +kernel
theorem dX8_set_176 : decode cX8_set 176 = .ok (.ireturn, 1) := by decide +kernel
theorem dX8_set_177 : decode cX8_set 177 = .ok (.iload_n 3, 1) := by decide +kernel
theorem dX8_set_178 : decode cX8_set 178 = .ok (.ifCond .ne 11, 3) := by decide +kernel
theorem dX8_set_181 : decode cX8_set 181 = .ok (.aload_n 0, 1) := by decide +kernel
theorem dX8_set_182 : decode cX8_set 182 = .ok (.iload_n 1, 1) := by decide +kernel
theorem dX8_set_183 : decode cX8_set 183 = .ok (.bipush (-5), 2) := by decide +kernel
theorem dX8_set_185 : decode cX8_set 185 = .ok (.invokevirtual 180, 3) := by decide +kernel
theorem dX8_set_188 : decode cX8_set 188 = .ok (.ireturn, 1) := by decide +kernel
theorem dX8_set_189 : decode cX8_set 189 = .ok (.aload_n 0, 1) := by decide +kernel
theorem dX8_set_190 : decode cX8_set 190 = .ok (.bipush 12, 2) := by decide +kernel
theorem dX8_set_192 : decode cX8_set 192 = .ok (.invokevirtual 197, 3) := by decide +kernel
theorem dX8_set_195 : decode cX8_set 195 = .ok (.istore 5, 2) := by decide +kernel
theorem dX8_set_197 : decode cX8_set 197 = .ok (.iload 5, 2) := by decide +kernel
theorem dX8_set_199 : decode cX8_set 199 = .ok (.iconst (-1), 1) := by decide +kernel
theorem dX8_set_200 : decode cX8_set 200 = .ok (.if_icmp .ne 11, 3) := by decide +kernel
theorem dX8_set_203 : decode cX8_set 203 = .ok (.aload_n 0, 1) := by decide +kernel
theorem dX8_set_204 : decode cX8_set 204 = .ok (.iload_n 1, 1) := by decide +kernel
theorem dX8_set_205 : decode cX8_set 205 = .ok (.bipush (-9), 2) := by decide +kernel
theorem dX8_set_207 : decode cX8_set 207 = .ok (.invokevirtual 180, 3) := by decide +kernel
theorem dX8_set_210 : decode cX8_set 210 = .ok (.ireturn, 1) := by decide +kernel
theorem dX8_set_211 : decode cX8_set 211 = .ok (.aload_n 0, 1) := by decide +kernel
theorem dX8_set_212 : decode cX8_set 212 = .ok (.iload_n 1, 1) := by decide +kernel
theorem dX8_set_213 : decode cX8_set 213 = .ok (.iload 5, 2) := by decide +kernel
theorem dX8_set_215 : decode cX8_set 215 = .ok (.iload_n 2, 1) := by decide +kernel
theorem dX8_set_216 : decode cX8_set 216 = .ok (.iload 4, 2) := by decide +kernel
theorem dX8_set_218 : decode cX8_set 218 = .ok (.invokevirtual 200, 3) := by decide +kernel
theorem dX8_set_221 : decode cX8_set 221 = .ok (.iload 5, 2) := by decide +kernel
theorem dX8_set_223 : decode cX8_set 223 = .ok (.bipush 12, 2) := by decide +kernel
theorem dX8_set_225 : decode cX8_set 225 = .ok (.isub, 1) := by decide +kernel
theorem dX8_set_226 : decode cX8_set 226 = .ok (.istore 6, 2) := by decide +kernel
theorem dX8_set_228 : decode cX8_set 228 = .ok (.aload_n 0, 1) := by decide +kernel
theorem dX8_set_229 : decode cX8_set 229 = .ok (.getfield 120, 3) := by decide +kernel
theorem dX8_set_232 : decode cX8_set 232 = .ok (.iload 6, 2) := by decide +kernel
theorem dX8_set_234 : decode cX8_set 234 = .ok (.iload_n 3, 1) := by decide +kernel
theorem dX8_set_235 : decode cX8_set 235 = .ok (.iastore, 1) := by decide +kernel
theorem dX8_set_236 : decode cX8_set 236 = .ok (.iconst 0, 1) := by decide +kernel
theorem dX8_set_237 : decode cX8_set 237 = .ok (.istore 7, 2) := by decide +kernel
theorem dX8_set_239 : decode cX8_set 239 = .ok (.iload 7, 2) := by decide +kernel
theorem dX8_set_241 : decode cX8_set 241 = .ok (.bipush 8, 2) := by decide +kernel
theorem dX8_set_243 : decode cX8_set 243 = .ok (.if_icmp .ge 73, 3) := by decide +kernel
theorem dX8_set_246 : decode cX8_set 246 = .ok (.aload_n 0, 1) := by decide +kernel
theorem dX8_set_247 : decode cX8_set 247 = .ok (.getfield 123, 3) := by decide +kernel
theorem dX8_set_250 : decode cX8_set 250 = .ok (.bipush 8, 2) := by decide +kernel
theorem dX8_set_252 : decode cX8_set 252 = .ok (.iload 6, 2) := by decide +kernel
theorem dX8_set_254 : decode cX8_set 254 = .ok (.imul, 1) := by decide +kernel
theorem dX8_set_255 : decode cX8_set 255 = .ok (.iload 7, 2) := by decide +kernel
theorem dX8_set_257 : decode cX8_set 257 = .ok (.iadd, 1) := by decide +kernel
theorem dX8_set_258 : decode cX8_set 258 = .ok (.iconst 0, 1) := by decide +kernel
theorem dX8_set_259 : decode cX8_set 259 = .ok (.iastore, 1) := by decide +kernel
theorem dX8_set_260 : decode cX8_set 260 = .ok (.aload_n 0, 1) := by decide +kernel
theorem dX8_set_261 : decode cX8_set 261 = .ok (.getfield 126, 3) := by decide +kernel
theorem dX8_set_264 : decode cX8_set 264 = .ok (.bipush 8, 2) := by decide +kernel
theorem dX8_set_266 : decode cX8_set 266 = .ok (.iload 6, 2) := by decide +kernel
theorem dX8_set_268 : decode cX8_set 268 = .ok (.imul, 1) := by decide +kernel
theorem dX8_set_269 : decode cX8_set 269 = .ok (.iload 7, 2) := by decide +kernel
theorem dX8_set_271 : decode cX8_set 271 = .ok (.iadd, 1) := by decide +kernel
theorem dX8_set_272 : decode cX8_set 272 = .ok (.iconst (-1), 1) := by decide +kernel
theorem dX8_set_273 : decode cX8_set 273 = .ok (.iastore, 1) := by decide +kernel
theorem dX8_set_274 : decode cX8_set 274 = .ok (.iconst 0, 1) := by decide +kernel
theorem dX8_set_275 : decode cX8_set 275 = .ok (.istore 8, 2) := by decide +kernel
theorem dX8_set_277 : decode cX8_set 277 = .ok (.iload 8, 2) := by decide +kernel
theorem dX8_set_279 : decode cX8_set 279 = .ok (.bipush 16, 2) := by decide +kernel
theorem dX8_set_281 : decode cX8_set 281 = .ok (.if_icmp .ge 29, 3) := by decide +kernel
theorem dX8_set_284 : decode cX8_set 284 = .ok (.aload_n 0, 1) := by decide +kernel
theorem dX8_set_285 : decode cX8_set 285 = .ok (.getfield 129, 3) := by decide +kernel
theorem dX8_set_288 : decode cX8_set 288 = .ok (.bipush 96, 2) := by decide +kernel
theorem dX8_set_290 : decode cX8_set 290 = .ok (.iload 8, 2) := by decide +kernel
theorem dX8_set_292 : decode cX8_set 292 = .ok (.imul, 1) := by decide +kernel
theorem dX8_set_293 : decode cX8_set 293 = .ok (.bipush 8, 2) := by decide +kernel
theorem dX8_set_295 : decode cX8_set 295 = .ok (.iload 6, 2) := by decide +kernel
theorem dX8_set_297 : decode cX8_set 297 = .ok (.imul, 1) := by decide +kernel
theorem dX8_set_298 : decode cX8_set 298 = .ok (.iadd, 1) := by decide +kernel
theorem dX8_set_299 : decode cX8_set 299 = .ok (.iload 7, 2) := by decide +kernel
theorem dX8_set_301 : decode cX8_set 301 = .ok (.iadd, 1) := by decide +kernel
theorem dX8_set_302 : decode cX8_set 302 = .ok (.iconst 0, 1) := by decide +kernel
theorem dX8_set_303 : decode cX8_set 303 = .ok (.iastore, 1) := by decide +kernel
theorem dX8_set_304 : decode cX8_set 304 = .ok (.iinc 8 1, 3) := by decide +kernel
theorem dX8_set_307 : decode cX8_set 307 = .ok (.goto (-30), 3) := by decide +kernel
theorem dX8_set_310 : decode cX8_set 310 = .ok (.iinc 7 1, 3) := by decide +kernel
theorem dX8_set_313 : decode cX8_set 313 = .ok (.goto (-74), 3) := by decide +kernel
theorem dX8_set_316 : decode cX8_set 316 = .ok (.aload_n 0, 1) := by decide +kernel
theorem dX8_set_317 : decode cX8_set 317 = .ok (.iload_n 1, 1) := by decide +kernel
theorem dX8_set_318 : decode cX8_set 318 = .ok (.aload_n 0, 1) := by decide +kernel
theorem dX8_set_319 : decode cX8_set 319 = .ok (.iload 5, 2) := by decide +kernel
theorem dX8_set_321 : decode cX8_set 321 = .ok (.invokevirtual 194, 3) := by decide +kernel
theorem dX8_set_324 : decode cX8_set 324 = .ok (.invokevirtual 180, 3) := by decide +kernel
theorem dX8_set_327 : decode cX8_set 327 = .ok (.ireturn, 1) := by decide +kernel
theorem dX8_remove_0 : decode cX8_remove 0 = .ok (.aload_n 0, 1) := by decide +kernel
theorem dX8_remove_1 : decode cX8_remove 1 = .ok (.iload_n 1, 1) := by decide +kernel
theorem dX8_remove_2 : decode cX8_remove 2 = .ok (.invokevirtual 152, 3) := by decide +kernel
theorem dX8_remove_5 : decode cX8_remove 5 = .ok (.ifCond .ne 6, 3) := by decide +kernel
theorem dX8_remove_8 : decode cX8_remove 8 = .ok (.bipush (-2), 2) := by decide +kernel
theorem dX8_remove_10 : decode cX8_remove 10 = .ok (.ireturn, 1) := by decide +kernel
theorem dX8_remove_11 : decode cX8_remove 11 = .ok (.aload_n 0, 1) := by decide +kernel
theorem dX8_remove_12 : decode cX8_remove 12 = .ok (.iload_n 1, 1) := by decide +kernel
theorem dX8_remove_13 : decode cX8_remove 13 = .ok (.invokevirtual 173, 3) := by decide +kernel
theorem dX8_remove_16 : decode cX8_remove 16 = .ok (.ifCond .ne 6, 3) := by decide +kernel
theorem dX8_remove_19 : decode cX8_remove 19 = .ok (.bipush (-3), 2) := by decide +kernel
theorem dX8_remove_21 : decode cX8_remove 21 = .ok (.ireturn, 1) := by decide +kernel
theorem dX8_remove_22 : decode cX8_remove 22 = .ok (.iload_n 2, 1) := by decide +kernel
theorem dX8_remove_23 : decode cX8_remove 23 = .ok (.i2l, 1) := by decide +kernel
theorem dX8_remove_24 : decode cX8_remove 24 = .ok (.lconst 0, 1) := by decide +kernel
theorem dX8_remove_25 : decode cX8_remove 25 = .ok (.lconst 1, 1) := by decide +kernel
theorem dX8_remove_26 : decode cX8_remove 26 = .ok (.invokestatic 142, 3) := by decide +kernel
theorem dX8_remove_29 : decode cX8_remove 29 = .ok (.ifCond .ne 11, 3) := by decide +kernel
theorem dX8_remove_32 : decode cX8_remove 32 = .ok (.aload_n 0, 1) := by decide +kernel
theorem dX8_remove_33 : decode cX8_remove 33 = .ok (.iload_n 1, 1) := by decide +kernel
theorem dX8_remove_34 : decode cX8_remove 34 = .ok (.bipush (-4), 2) := by decide +kernel
theorem dX8_remove_36 : decode cX8_remove 36 = .ok (.invokevirtual 180, 3) := by decide +kernel
theorem dX8_remove_39 : decode cX8_remove 39 = .ok (.ireturn, 1) := by decide +kernel
theorem dX8_remove_40 : decode cX8_remove 40 = .ok (.aload_n 0, 1) := by decide +kernel
theorem dX8_remove_41 : decode cX8_remove 41 = .ok (.iload_n 3, 1) := by decide +kernel
theorem dX8_remove_42 : decode cX8_remove 42 = .ok (.bipush 12, 2) := by decide +kernel
theorem dX8_remove_44 : decode cX8_remove 44 = .ok (.iload_n 2, 1) := by decide +kernel
theorem dX8_remove_45 : decode cX8_remove 45 = .ok (.imul, 1) := by decide +kernel
theorem dX8_remove_46 : decode cX8_remove 46 = .ok (.invokevirtual 206, 3) := by decide +kernel
theorem dX8_remove_49 : decode cX8_remove 49 = .ok (.istore 4, 2) := by decide +kernel
theorem dX8_remove_51 : decode cX8_remove 51 = .ok (.iload 4, 2) := by decide +kernel
theorem dX8_remove_53 : decode cX8_remove 53 = .ok (.iconst (-1), 1) := by decide +kernel
theorem dX8_remove_54 : decode cX8_remove 54 = .ok (.if_icmp .ne 11, 3) := by decide +kernel
theorem dX8_remove_57 : decode cX8_remove 57 = .ok (.aload_n 0, 1) := by decide +kernel
theorem dX8_remove_58 : decode cX8_remove 58 = .ok (.iload_n 1, 1) := by decide +kernel
theorem dX8_remove_59 : decode cX8_remove 59 = .ok (.bipush (-5), 2) := by decide +kernel
theorem dX8_remove_61 : decode cX8_remove 61 = .ok (.invokevirtual 180, 3) := by decide +kernel
theorem dX8_remove_64 : decode cX8_remove 64 = .ok (.ireturn, 1) := by decide +kernel
theorem dX8_remove_65 : decode cX8_remove 65 = .ok (.aload_n 0, 1) := by decide +kernel
theorem dX8_remove_66 : decode cX8_remove 66 = .ok (.iload_n 1, 1) := by decide +kernel
theorem dX8_remove_67 : decode cX8_remove 67 = .ok (.iload 4, 2) := by decide +kernel
theorem dX8_remove_69 : decode cX8_remove 69 = .ok (.invokevirtual 209, 3) := by decide +kernel
theorem dX8_remove_72 : decode cX8_remove 72 = .ok (.ifCond .ne 11, 3) := by decide +kernel
theorem dX8_remove_75 : decode cX8_remove 75 = .ok (.aload_n 0, 1) := by decide +kernel
theorem dX8_remove_76 : decode cX8_remove 76 = .ok (.iload_n 1, 1) := by decide +kernel
theorem dX8_remove_77 : decode cX8_remove 77 = .ok (.bipush (-6), 2) := by decide +kernel
theorem dX8_remove_79 : decode cX8_remove 79 = .ok (.invokevirtual 180, 3) := by decide +kernel
theorem dX8_remove_82 : decode cX8_remove 82 = .ok (.ireturn, 1) := by decide +kernel
theorem dX8_remove_83 : decode cX8_remove 83 = .ok (.aload_n 0, 1) := by decide +kernel
theorem dX8_remove_84 : decode cX8_remove 84 = .ok (.getfield 78, 3) := by decide +kernel
theorem dX8_remove_87 : decode cX8_remove 87 = .ok (.iload 4, 2) := by decide +kernel
theorem dX8_remove_89 : decode cX8_remove 89 = .ok (.iconst 0, 1) := by decide +kernel
theorem dX8_remove_90 : decode cX8_remove 90 = .ok (.bastore, 1) := by decide +kernel
theorem dX8_remove_91 : decode cX8_remove 91 = .ok (.aload_n 0, 1) := by decide +kernel
theorem dX8_remove_92 : decode cX8_remove 92 = .ok (.getfield 81, 3) := by decide +kernel
theorem dX8_remove_95 : decode cX8_remove 95 = .ok (.iload 4, 2) := by decide +kernel
theorem dX8_remove_97 : decode cX8_remove 97 = .ok (.dup2, 1) := by decide +kernel
theorem dX8_remove_98 : decode cX8_remove 98 = .ok (.iaload, 1) := by decide +kernel
theorem dX8_remove_99 : decode cX8_remove 99 = .ok (.iconst 1, 1) := by decide +kernel
theorem dX8_remove_100 : decode cX8_remove 100 = .ok (.iadd, 1) := by decide +kernel
theorem dX8_remove_101 : decode cX8_remove 101 = .ok (.iastore, 1) := by decide +kernel
theorem dX8_remove_102 : decode cX8_remove 102 = .ok (.iconst 0, 1) := by decide +kernel
theorem dX8_remove_103 : decode cX8_remove 103 = .ok (.istore 5, 2) := by decide +kernel
theorem dX8_remove_105 : decode cX8_remove 105 = .ok (.iload 5, 2) := by decide +kernel
theorem dX8_remove_107 : decode cX8_remove 107 = .ok (.aload_n 0, 1) := by decide +kernel
theorem dX8_remove_108 : decode cX8_remove 108 = .ok (.getfield 138, 3) := by decide +kernel
theorem dX8_remove_111 : decode cX8_remove 111 = .ok (.if_icmp .ge 127, 3) := by decide +kernel
theorem dX8_remove_114 : decode cX8_remove 114 = .ok (.aload_n 0, 1) := by decide +kernel
theorem dX8_remove_115 : decode cX8_remove 115 = .ok (.getfield 30, 3) := by decide +kernel
theorem dX8_remove_118 : decode cX8_remove 118 = .ok (.iload 5, 2) := by decide +kernel
theorem dX8_remove_120 : decode cX8_remove 120 = .ok (.iaload, 1) := by decide +kernel
theorem dX8_remove_121 : decode cX8_remove 121 = .ok (.ifCond .eq 51, 3) := by decide +kernel
theorem dX8_remove_124 : decode cX8_remove 124 = .ok (.aload_n 0, 1) := by decide +kernel
theorem dX8_remove_125 : decode cX8_remove 125 = .ok (.getfield 36, 3) := by decide +kernel
theorem dX8_remove_128 : decode cX8_remove 128 = .ok (.iload 5, 2) := by decide +kernel
theorem dX8_remove_130 : decode cX8_remove 130 = .ok (.iaload, 1) := by decide +kernel
theorem dX8_remove_131 : decode cX8_remove 131 = .ok (.iload 4, 2) := by decide +kernel
theorem dX8_remove_133 : decode cX8_remove 133 = .ok (.bipush 12, 2) := by decide +kernel
theorem dX8_remove_135 : decode cX8_remove 135 = .ok (.irem, 1) := by decide +kernel
theorem dX8_remove_136 : decode cX8_remove 136 = .ok (.if_icmp .ne 36, 3) := by decide +kernel
theorem dX8_remove_139 : decode cX8_remove 139 = .ok (.aload_n 0, 1) := by decide +kernel
theorem dX8_remove_140 : decode cX8_remove 140 = .ok (.getfield 30, 3) := by decide +kernel
theorem dX8_remove_143 : decode cX8_remove 143 = .ok (.iload 5, 2) := by decide +kernel
theorem dX8_remove_145 : decode cX8_remove 145 = .ok (.iaload, 1) := by decide +kernel
theorem dX8_remove_146 : decode cX8_remove 146 = .ok (.iconst 3, 1) := by decide +kernel
theorem dX8_remove_147 : decode cX8_remove 147 = .ok (.if_icmp .ne 7, 3) := by decide +kernel
theorem dX8_remove_150 : decode cX8_remove 150 = .ok (.iconst 1, 1) := by decide +kernel
theorem dX8_remove_151 : decode cX8_remove 151 = .ok (.goto 4, 3) := by decide +kernel
theorem dX8_remove_154 : decode cX8_remove 154 = .ok (.iconst 0, 1) := by decide +kernel
theorem dX8_remove_155 : decode cX8_remove 155 = .ok (.iload_n 2, 1) := by decide +kernel
theorem dX8_remove_156 : decode cX8_remove 156 = .ok (.iconst 1, 1) := by decide +kernel
theorem dX8_remove_157 : decode cX8_remove 157 = .ok (.if_icmp .ne 7, 3) := by decide +kernel
theorem dX8_remove_160 : decode cX8_remove 160 = .ok (.iconst 1, 1) := by decide +kernel
theorem dX8_remove_161 : decode cX8_remove 161 = .ok (.goto 4, 3) := by decide +kernel
theorem dX8_remove_164 : decode cX8_remove 164 = .ok (.iconst 0, 1) := by decide +kernel
theorem dX8_remove_165 : decode cX8_remove 165 = .ok (.if_icmp .ne 7, 3) := by decide +kernel
theorem dX8_remove_168 : decode cX8_remove 168 = .ok (.iconst 1, 1) := by decide +kernel
theorem dX8_remove_169 : decode cX8_remove 169 = .ok (.goto 4, 3) := by decide +kernel
theorem dX8_remove_172 : decode cX8_remove 172 = .ok (.iconst 0, 1) := by decide +kernel
theorem dX8_remove_173 : decode cX8_remove 173 = .ok (.istore 6, 2) := by decide +kernel
theorem dX8_remove_175 : decode cX8_remove 175 = .ok (.iload 6, 2) := by decide +kernel
theorem dX8_remove_177 : decode cX8_remove 177 = .ok (.ifCond .eq 11, 3) := by decide +kernel
theorem dX8_remove_180 : decode cX8_remove 180 = .ok (.aload_n 0, 1) := by decide +kernel
theorem dX8_remove_181 : decode cX8_remove 181 = .ok (.iload 5, 2) := by decide +kernel
theorem dX8_remove_183 : decode cX8_remove 183 = .ok (.bipush (-14), 2) := by decide +kernel
theorem dX8_remove_185 : decode cX8_remove 185 = .ok (.invokevirtual 156, 3) := by decide +kernel
theorem dX8_remove_188 : decode cX8_remove 188 = .ok (.iconst 0, 1) := by decide +kernel
theorem dX8_remove_189 : decode cX8_remove 189 = .ok (.istore 7, 2) := by decide +kernel
theorem dX8_remove_191 : decode cX8_remove 191 = .ok (.iload 7, 2) := by decide +kernel
theorem dX8_remove_193 : decode cX8_remove 193 = .ok (.bipush 8, 2) := by decide +kernel
theorem dX8_remove_195 : decode cX8_remove 195 = .ok (.if_icmp .ge 37, 3) := by decide +kernel
theorem dX8_remove_198 : decode cX8_remove 198 = .ok (.iload_n 2, 1) := by decide +kernel
theorem dX8_remove_199 : decode cX8_remove 199 = .ok (.iconst 1, 1) := by decide +kernel
theorem dX8_remove_200 : decode cX8_remove 200 = .ok (.if_icmp .ne 32, 3) := by decide +kernel
theorem dX8_remove_203 : decode cX8_remove 203 = .ok (.aload_n 0, 1) := by decide +kernel
theorem dX8_remove_204 : decode cX8_remove 204 = .ok (.getfield 129, 3) := by decide +kernel
theorem dX8_remove_207 : decode cX8_remove 207 = .ok (.bipush 96, 2) := by decide +kernel
theorem dX8_remove_209 : decode cX8_remove 209 = .ok (.iload 5, 2) := by decide +kernel
theorem dX8_remove_211 : decode cX8_remove 211 = .ok (.imul, 1) := by decide +kernel
theorem dX8_remove_212 : decode cX8_remove 212 = .ok (.bipush 8, 2) := by decide +kernel
theorem dX8_remove_214 : decode cX8_remove 214 = .ok (.iload 4, 2) := by decide +kernel
theorem dX8_remove_216 : decode cX8_remove 216 = .ok (.bipush 12, 2) := by decide +kernel
theorem dX8_remove_218 : decode cX8_remove 218 = .ok (.isub, 1) := by decide +kernel
theorem dX8_remove_219 : decode cX8_remove 219 = .ok (.imul, 1) := by decide +kernel
theorem dX8_remove_220 : decode cX8_remove 220 = .ok (.iadd, 1) := by decide +kernel
theorem dX8_remove_221 : decode cX8_remove 221 = .ok (.iload 7, 2) := by decide +kernel
theorem dX8_remove_223 : decode cX8_remove 223 = .ok (.iadd, 1) := by decide +kernel
theorem dX8_remove_224 : decode cX8_remove 224 = .ok (.iconst 0, 1) := by decide +kernel
theorem dX8_remove_225 : decode cX8_remove 225 = .ok (.iastore, 1) := by decide +kernel
theorem dX8_remove_226 : decode cX8_remove 226 = .ok (.iinc 7 1, 3) := by decide +kernel
theorem dX8_remove_229 : decode cX8_remove 229 = .ok (.goto (-38), 3) := by decide +kernel
theorem dX8_remove_232 : decode cX8_remove 232 = .ok (.iinc 5 1, 3) := by decide +kernel
theorem dX8_remove_235 : decode cX8_remove 235 = .ok (.goto (-130), 3) := by decide +kernel
theorem dX8_remove_238 : decode cX8_remove 238 = .ok (.aload_n 0, 1) := by decide +kernel
theorem dX8_remove_239 : decode cX8_remove 239 = .ok (.getfield 20, 3) := by decide +kernel
theorem dX8_remove_242 : decode cX8_remove 242 = .ok (.iload_n 1, 1) := by decide +kernel
theorem dX8_remove_243 : decode cX8_remove 243 = .ok (.iconst 0, 1) := by decide +kernel
theorem dX8_remove_244 : decode cX8_remove 244 = .ok (.iastore, 1) := by decide +kernel
theorem dX8_remove_245 : decode cX8_remove 245 = .ok (.iload_n 2, 1) := by decide +kernel
theorem dX8_remove_246 : decode cX8_remove 246 = .ok (.ifCond .ne 23, 3) := by decide +kernel
theorem dX8_remove_249 : decode cX8_remove 249 = .ok (.aload_n 0, 1) := by decide +kernel
theorem dX8_remove_250 : decode cX8_remove 250 = .ok (.getfield 102, 3) := by decide +kernel
theorem dX8_remove_253 : decode cX8_remove 253 = .ok (.iload 4, 2) := by decide +kernel
theorem dX8_remove_255 : decode cX8_remove 255 = .ok (.iconst 0, 1) := by decide +kernel
theorem dX8_remove_256 : decode cX8_remove 256 = .ok (.iastore, 1) := by decide +kernel
theorem dX8_remove_257 : decode cX8_remove 257 = .ok (.aload_n 0, 1) := by decide +kernel
theorem dX8_remove_258 : decode cX8_remove 258 = .ok (.getfield 108, 3) := by decide +kernel
theorem dX8_remove_261 : decode cX8_remove 261 = .ok (.iload 4, 2) := by decide +kernel
theorem dX8_remove_263 : decode cX8_remove 263 = .ok (.iconst 0, 1) := by decide +kernel
theorem dX8_remove_264 : decode cX8_remove 264 = .ok (.iastore, 1) := by decide +kernel
theorem dX8_remove_265 : decode cX8_remove 265 = .ok (.aload_n 0, 1) := by decide +kernel
theorem dX8_remove_266 : decode cX8_remove 266 = .ok (.invokevirtual 213, 3) := by decide +kernel
theorem dX8_remove_269 : decode cX8_remove 269 = .ok (.iconst 0, 1) := by decide +kernel
theorem dX8_remove_270 : decode cX8_remove 270 = .ok (.ireturn, 1) := by decide +kernel
theorem dX8_own_0 : decode cX8_own 0 = .ok (.aload_n 0, 1) := by decide +kernel
theorem dX8_own_1 : decode cX8_own 1 = .ok (.iload_n 1, 1) := by decide +kernel
theorem dX8_own_2 : decode cX8_own 2 = .ok (.invokevirtual 152, 3) := by decide +kernel
theorem dX8_own_5 : decode cX8_own 5 = .ok (.ifCond .ne 6, 3) := by decide +kernel
theorem dX8_own_8 : decode cX8_own 8 = .ok (.bipush (-2), 2) := by decide +kernel
theorem dX8_own_10 : decode cX8_own 10 = .ok (.ireturn, 1) := by decide +kernel
theorem dX8_own_11 : decode cX8_own 11 = .ok (.aload_n 0, 1) := by decide +kernel
theorem dX8_own_12 : decode cX8_own 12 = .ok (.iload_n 1, 1) := by decide +kernel
theorem dX8_own_13 : decode cX8_own 13 = .ok (.invokevirtual 173, 3) := by decide +kernel
theorem dX8_own_16 : decode cX8_own 16 = .ok (.ifCond .ne 6, 3) := by decide +kernel
theorem dX8_own_19 : decode cX8_own 19 = .ok (.bipush (-3), 2) := by decide +kernel
theorem dX8_own_21 : decode cX8_own 21 = .ok (.ireturn, 1) := by decide +kernel
theorem dX8_own_22 : decode cX8_own 22 = .ok (.iload_n 2, 1) := by decide +kernel
theorem dX8_own_23 : decode cX8_own 23 = .ok (.i2l, 1) := by decide +kernel
theorem dX8_own_24 : decode cX8_own 24 = .ok (.lconst 0, 1) := by decide +kernel
theorem dX8_own_25 : decode cX8_own 25 = .ok (.lconst 1, 1) := by decide +kernel
theorem dX8_own_26 : decode cX8_own 26 = .ok (.invokestatic 142, 3) := by decide +kernel
theorem dX8_own_29 : decode cX8_own 29 = .ok (.ifCond .eq 42, 3) := by decide +kernel
theorem dX8_own_32 : decode cX8_own 32 = .ok (.iload 4, 2) := by decide +kernel
theorem dX8_own_34 : decode cX8_own 34 = .ok (.i2l, 1) := by decide +kernel
theorem dX8_own_35 : decode cX8_own 35 = .ok (.lconst 0, 1) := by decide +kernel
theorem dX8_own_36 : decode cX8_own 36 = .ok (.ldc2_w 150, 3) := by decide +kernel
theorem dX8_own_39 : decode cX8_own 39 = .ok (.invokestatic 142, 3) := by decide +kernel
theorem dX8_own_42 : decode cX8_own 42 = .ok (.ifCond .eq 29, 3) := by decide +kernel
theorem dX8_own_45 : decode cX8_own 45 = .ok (.iload 5, 2) := by decide +kernel
theorem dX8_own_47 : decode cX8_own 47 = .ok (.i2l, 1) := by decide +kernel
theorem dX8_own_48 : decode cX8_own 48 = .ok (.lconst 0, 1) := by decide +kernel
theorem dX8_own_49 : decode cX8_own 49 = .ok (.ldc2_w 150, 3) := by decide +kernel
theorem dX8_own_52 : decode cX8_own 52 = .ok (.invokestatic 142, 3) := by decide +kernel
theorem dX8_own_55 : decode cX8_own 55 = .ok (.ifCond .eq 16, 3) := by decide +kernel
theorem dX8_own_58 : decode cX8_own 58 = .ok (.iload 6, 2) := by decide +kernel
theorem dX8_own_60 : decode cX8_own 60 = .ok (.i2l, 1) := by decide +kernel
theorem dX8_own_61 : decode cX8_own 61 = .ok (.lconst 0, 1) := by decide +kernel
theorem dX8_own_62 : decode cX8_own 62 = .ok (.ldc2_w 216, 3) := by decide +kernel
theorem dX8_own_65 : decode cX8_own 65 = .ok (.invokestatic 142, 3) := by decide +kernel
theorem dX8_own_68 : decode cX8_own 68 = .ok (.ifCond .ne 11, 3) := by decide +kernel
theorem dX8_own_71 : decode cX8_own 71 = .ok (.aload_n 0, 1) := by decide +kernel
theorem dX8_own_72 : decode cX8_own 72 = .ok (.iload_n 1, 1) := by decide +kernel
theorem dX8_own_73 : decode cX8_own 73 = .ok (.bipush (-4), 2) := by decide +kernel
theorem dX8_own_75 : decode cX8_own 75 = .ok (.invokevirtual 180, 3) := by decide +kernel
theorem dX8_own_78 : decode cX8_own 78 = .ok (.ireturn, 1) := by decide +kernel
theorem dX8_own_79 : decode cX8_own 79 = .ok (.aload_n 0, 1) := by decide +kernel
theorem dX8_own_80 : decode cX8_own 80 = .ok (.iload_n 3, 1) := by decide +kernel
theorem dX8_own_81 : decode cX8_own 81 = .ok (.bipush 12, 2) := by decide +kernel
theorem dX8_own_83 : decode cX8_own 83 = .ok (.iload_n 2, 1) := by decide +kernel
theorem dX8_own_84 : decode cX8_own 84 = .ok (.imul, 1) := by decide +kernel
theorem dX8_own_85 : decode cX8_own 85 = .ok (.invokevirtual 206, 3) := by decide +kernel
theorem dX8_own_88 : decode cX8_own 88 = .ok (.istore 7, 2) := by decide +kernel
theorem dX8_own_90 : decode cX8_own 90 = .ok (.iload 7, 2) := by decide +kernel
theorem dX8_own_92 : decode cX8_own 92 = .ok (.iconst (-1), 1) := by decide +kernel
theorem dX8_own_93 : decode cX8_own 93 = .ok (.if_icmp .ne 11, 3) := by decide +kernel
theorem dX8_own_96 : decode cX8_own 96 = .ok (.aload_n 0, 1) := by decide +kernel
theorem dX8_own_97 : decode cX8_own 97 = .ok (.iload_n 1, 1) := by decide +kernel
theorem dX8_own_98 : decode cX8_own 98 = .ok (.bipush (-5), 2) := by decide +kernel
theorem dX8_own_100 : decode cX8_own 100 = .ok (.invokevirtual 180, 3) := by decide +kernel
theorem dX8_own_103 : decode cX8_own 103 = .ok (.ireturn, 1) := by decide +kernel
theorem dX8_own_104 : decode cX8_own 104 = .ok (.aload_n 0, 1) := by decide +kernel
theorem dX8_own_105 : decode cX8_own 105 = .ok (.iload_n 1, 1) := by decide +kernel
theorem dX8_own_106 : decode cX8_own 106 = .ok (.iload 7, 2) := by decide +kernel
theorem dX8_own_108 : decode cX8_own 108 = .ok (.invokevirtual 209, 3) := by decide +kernel
theorem dX8_own_111 : decode cX8_own 111 = .ok (.ifCond .ne 11, 3) := by decide +kernel
theorem dX8_own_114 : decode cX8_own 114 = .ok (.aload_n 0, 1) := by decide +kernel
theorem dX8_own_115 : decode cX8_own 115 = .ok (.iload_n 1, 1) := by decide +kernel
theorem dX8_own_116 : decode cX8_own 116 = .ok (.bipush (-6), 2) := by decide +kernel
theorem dX8_own_118 : decode cX8_own 118 = .ok (.invokevirtual 180, 3) := by decide +kernel
theorem dX8_own_121 : decode cX8_own 121 = .ok (.ireturn, 1) := by decide +kernel
theorem dX8_own_122 : decode cX8_own 122 = .ok (.aload_n 0, 1) := by decide +kernel
theorem dX8_own_123 : decode cX8_own 123 = .ok (.getfield 87, 3) := by decide +kernel
theorem dX8_own_126 : decode cX8_own 126 = .ok (.iload 7, 2) := by decide +kernel
theorem dX8_own_128 : decode cX8_own 128 = .ok (.iload 4, 2) := by decide +kernel
theorem dX8_own_130 : decode cX8_own 130 = .ok (.iastore, 1) := by decide +kernel
theorem dX8_own_131 : decode cX8_own 131 = .ok (.aload_n 0, 1) := by decide +kernel
theorem dX8_own_132 : decode cX8_own 132 = .ok (.getfield 90, 3) := by decide +kernel
theorem dX8_own_135 : decode cX8_own 135 = .ok (.iload 7, 2) := by decide +kernel
theorem dX8_own_137 : decode cX8_own 137 = .ok (.iload 5, 2) := by decide +kernel
theorem dX8_own_139 : decode cX8_own 139 = .ok (.iastore, 1) := by decide +kernel
theorem dX8_own_140 : decode cX8_own 140 = .ok (.aload_n 0, 1) := by decide +kernel
theorem dX8_own_141 : decode cX8_own 141 = .ok (.getfield 99, 3) := by decide +kernel
theorem dX8_own_144 : decode cX8_own 144 = .ok (.iload 7, 2) := by decide +kernel
theorem dX8_own_146 : decode cX8_own 146 = .ok (.iload 6, 2) := by decide +kernel
theorem dX8_own_148 : decode cX8_own 148 = .ok (.iastore, 1) := by decide +kernel
theorem dX8_own_149 : decode cX8_own 149 = .ok (.aload_n 0, 1) := by decide +kernel
theorem dX8_own_150 : decode cX8_own 150 = .ok (.iload_n 1, 1) := by decide +kernel
theorem dX8_own_151 : decode cX8_own 151 = .ok (.iconst 0, 1) := by decide +kernel
theorem dX8_own_152 : decode cX8_own 152 = .ok (.invokevirtual 180, 3) := by decide +kernel
theorem dX8_own_155 : decode cX8_own 155 = .ok (.ireturn, 1) := by decide +kernel
theorem dX8_room_0 : decode cX8_room 0 = .ok (.aload_n 0, 1) := by decide +kernel
theorem dX8_room_1 : decode cX8_room 1 = .ok (.iload_n 1, 1) := by decide +kernel
theorem dX8_room_2 : decode cX8_room 2 = .ok (.invokevirtual 152, 3) := by decide +kernel
theorem dX8_room_5 : decode cX8_room 5 = .ok (.ifCond .ne 6, 3) := by decide +kernel
theorem dX8_room_8 : decode cX8_room 8 = .ok (.bipush (-2), 2) := by decide +kernel
theorem dX8_room_10 : decode cX8_room 10 = .ok (.ireturn, 1) := by decide +kernel
theorem dX8_room_11 : decode cX8_room 11 = .ok (.aload_n 0, 1) := by decide +kernel
theorem dX8_room_12 : decode cX8_room 12 = .ok (.iload_n 1, 1) := by decide +kernel
theorem dX8_room_13 : decode cX8_room 13 = .ok (.invokevirtual 173, 3) := by decide +kernel
theorem dX8_room_16 : decode cX8_room 16 = .ok (.ifCond .ne 6, 3) := by decide +kernel
theorem dX8_room_19 : decode cX8_room 19 = .ok (.bipush (-3), 2) := by decide +kernel
theorem dX8_room_21 : decode cX8_room 21 = .ok (.ireturn, 1) := by decide +kernel
theorem dX8_room_22 : decode cX8_room 22 = .ok (.iload_n 3, 1) := by decide +kernel
theorem dX8_room_23 : decode cX8_room 23 = .ok (.i2l, 1) := by decide +kernel
theorem dX8_room_24 : decode cX8_room 24 = .ok (.lconst 0, 1) := by decide +kernel
theorem dX8_room_25 : decode cX8_room 25 = .ok (.ldc2_w 218, 3) := by decide +kernel
theorem dX8_room_28 : decode cX8_room 28 = .ok (.invokestatic 142, 3) := by decide +kernel
theorem dX8_room_31 : decode cX8_room 31 = .ok (.ifCond .ne 11, 3) := by decide +kernel
theorem dX8_room_34 : decode cX8_room 34 = .ok (.aload_n 0, 1) := by decide +kernel
theorem dX8_room_35 : decode cX8_room 35 = .ok (.iload_n 1, 1) := by decide +kernel
theorem dX8_room_36 : decode cX8_room 36 = .ok (.bipush (-4), 2) := by decide +kernel
theorem dX8_room_38 : decode cX8_room 38 = .ok (.invokevirtual 180, 3) := by decide +kernel
theorem dX8_room_41 : decode cX8_room 41 = .ok (.ireturn, 1) := by decide +kernel
theorem dX8_room_42 : decode cX8_room 42 = .ok (.aload_n 0, 1) := by decide +kernel
theorem dX8_room_43 : decode cX8_room 43 = .ok (.iload_n 2, 1) := by decide +kernel
theorem dX8_room_44 : decode cX8_room 44 = .ok (.iconst 0, 1) := by decide +kernel
theorem dX8_room_45 : decode cX8_room 45 = .ok (.invokevirtual 206, 3) := by decide +kernel
theorem dX8_room_48 : decode cX8_room 48 = .ok (.istore 4, 2) := by decide +kernel
theorem dX8_room_50 : decode cX8_room 50 = .ok (.iload 4, 2) := by decide +kernel
theorem dX8_room_52 : decode cX8_room 52 = .ok (.iconst (-1), 1) := by decide +kernel
theorem dX8_room_53 : decode cX8_room 53 = .ok (.if_icmp .ne 11, 3) := by decide +kernel
theorem dX8_room_56 : decode cX8_room 56 = .ok (.aload_n 0, 1) := by decide +kernel
theorem dX8_room_57 : decode cX8_room 57 = .ok (.iload_n 1, 1) := by decide +kernel
theorem dX8_room_58 : decode cX8_room 58 = .ok (.bipush (-5), 2) := by decide +kernel
theorem dX8_room_60 : decode cX8_room 60 = .ok (.invokevirtual 180, 3) := by decide +kernel
theorem dX8_room_63 : decode cX8_room 63 = .ok (.ireturn, 1) := by decide +kernel
theorem dX8_room_64 : decode cX8_room 64 = .ok (.aload_n 0, 1) := by decide +kernel
theorem dX8_room_65 : decode cX8_room 65 = .ok (.iload_n 1, 1) := by decide +kernel
theorem dX8_room_66 : decode cX8_room 66 = .ok (.iload 4, 2) := by decide +kernel
theorem dX8_room_68 : decode cX8_room 68 = .ok (.invokevirtual 209, 3) := by decide +kernel
theorem dX8_room_71 : decode cX8_room 71 = .ok (.ifCond .eq 23, 3) := by decide +kernel
theorem dX8_room_74 : decode cX8_room 74 = .ok (.iload_n 3, 1) := by decide +kernel
theorem dX8_room_75 : decode cX8_room 75 = .ok (.aload_n 0, 1) := by decide +kernel
theorem dX8_room_76 : decode cX8_room 76 = .ok (.getfield 105, 3) := by decide +kernel
theorem dX8_room_79 : decode cX8_room 79 = .ok (.iload 4, 2) := by decide +kernel
theorem dX8_room_81 : decode cX8_room 81 = .ok (.iaload, 1) := by decide +kernel
theorem dX8_room_82 : decode cX8_room 82 = .ok (.if_icmp .le 20, 3) := by decide +kernel
theorem dX8_room_85 : decode cX8_room 85 = .ok (.aload_n 0, 1) := by decide +kernel
theorem dX8_room_86 : decode cX8_room 86 = .ok (.getfield 7, 3) := by decide +kernel
theorem dX8_room_89 : decode cX8_room 89 = .ok (.iload_n 1, 1) := by decide +kernel
theorem dX8_room_90 : decode cX8_room 90 = .ok (.iaload, 1) := by decide +kernel
theorem dX8_room_91 : decode cX8_room 91 = .ok (.ifCond .eq 11, 3) := by decide +kernel
theorem dX8_room_94 : decode cX8_room 94 = .ok (.aload_n 0, 1) := by decide +kernel
theorem dX8_room_95 : decode cX8_room 95 = .ok (.iload_n 1, 1) := by decide +kernel
theorem dX8_room_96 : decode cX8_room 96 = .ok (.bipush (-6), 2) := by decide +kernel
theorem dX8_room_98 : decode cX8_room 98 = .ok (.invokevirtual 180, 3) := by decide +kernel
theorem dX8_room_101 : decode cX8_room 101 = .ok (.ireturn, 1) := by decide +kernel
theorem dX8_room_102 : decode cX8_room 102 = .ok (.aload_n 0, 1) := by decide +kernel
theorem dX8_room_103 : decode cX8_room 103 = .ok (.getfield 105, 3) := by decide +kernel
theorem dX8_room_106 : decode cX8_room 106 = .ok (.iload 4, 2) := by decide +kernel
theorem dX8_room_108 : decode cX8_room 108 = .ok (.iload_n 3, 1) := by decide +kernel
theorem dX8_room_109 : decode cX8_room 109 = .ok (.iastore, 1) := by decide +kernel
theorem dX8_room_110 : decode cX8_room 110 = .ok (.aload_n 0, 1) := by decide +kernel
theorem dX8_room_111 : decode cX8_room 111 = .ok (.getfield 20, 3) := by decide +kernel
theorem dX8_room_114 : decode cX8_room 114 = .ok (.iload_n 1, 1) := by decide +kernel
theorem dX8_room_115 : decode cX8_room 115 = .ok (.iconst 0, 1) := by decide +kernel
theorem dX8_room_116 : decode cX8_room 116 = .ok (.iastore, 1) := by decide +kernel
theorem dX8_room_117 : decode cX8_room 117 = .ok (.aload_n 0, 1) := by decide +kernel
theorem dX8_room_118 : decode cX8_room 118 = .ok (.invokevirtual 213, 3) := by decide +kernel
theorem dX8_room_121 : decode cX8_room 121 = .ok (.iconst 0, 1) := by decide +kernel
theorem dX8_room_122 : decode cX8_room 122 = .ok (.ireturn, 1) := by decide +kernel
theorem dX8_allBytes_0 : decode cX8_allBytes 0 = .ok (.iconst 0, 1) := by decide +kernel
theorem dX8_allBytes_1 : decode cX8_allBytes 1 = .ok (.istore_n 1, 1) := by decide +kernel
theorem dX8_allBytes_2 : decode cX8_allBytes 2 = .ok (.iconst 0, 1) := by decide +kernel
theorem dX8_allBytes_3 : decode cX8_allBytes 3 = .ok (.istore_n 2, 1) := by decide +kernel
theorem dX8_allBytes_4 : decode cX8_allBytes 4 = .ok (.iload_n 2, 1) := by decide +kernel
theorem dX8_allBytes_5 : decode cX8_allBytes 5 = .ok (.bipush 12, 2) := by decide +kernel
theorem dX8_allBytes_7 : decode cX8_allBytes 7 = .ok (.if_icmp .ge 31, 3) := by decide +kernel
theorem dX8_allBytes_10 : decode cX8_allBytes 10 = .ok (.iload_n 1, 1) := by decide +kernel
theorem dX8_allBytes_11 : decode cX8_allBytes 11 = .ok (.aload_n 0, 1) := by decide +kernel
theorem dX8_allBytes_12 : decode cX8_allBytes 12 = .ok (.getfield 78, 3) := by decide +kernel
theorem dX8_allBytes_15 : decode cX8_allBytes 15 = .ok (.iload_n 2, 1) := by decide +kernel
theorem dX8_allBytes_16 : decode cX8_allBytes 16 = .ok (.baload, 1) := by decide +kernel
theorem dX8_allBytes_17 : decode cX8_allBytes 17 = .ok (.ifCond .eq 12, 3) := by decide +kernel
theorem dX8_allBytes_20 : decode cX8_allBytes 20 = .ok (.aload_n 0, 1) := by decide +kernel
theorem dX8_allBytes_21 : decode cX8_allBytes 21 = .ok (.getfield 102, 3) := by decide +kernel
theorem dX8_allBytes_24 : decode cX8_allBytes 24 = .ok (.iload_n 2, 1) := by decide +kernel
theorem dX8_allBytes_25 : decode cX8_allBytes 25 = .ok (.iaload, 1) := by decide +kernel
theorem dX8_allBytes_26 : decode cX8_allBytes 26 = .ok (.goto 4, 3) := by decide +kernel
theorem dX8_allBytes_29 : decode cX8_allBytes 29 = .ok (.iconst 0, 1) := by decide +kernel
theorem dX8_allBytes_30 : decode cX8_allBytes 30 = .ok (.iadd, 1) := by decide +kernel
theorem dX8_allBytes_31 : decode cX8_allBytes 31 = .ok (.istore_n 1, 1) := by decide +kernel
theorem dX8_allBytes_32 : decode cX8_allBytes 32 = .ok (.iinc 2 1, 3) := by decide +kernel
theorem dX8_allBytes_35 : decode cX8_allBytes 35 = .ok (.goto (-31), 3) := by decide +kernel
theorem dX8_allBytes_38 : decode cX8_allBytes 38 = .ok (.iload_n 1, 1) := by decide +kernel
theorem dX8_allBytes_39 : decode cX8_allBytes 39 = .ok (.ireturn, 1) := by decide +kernel
theorem dX8_fits_0 : decode cX8_fits 0 = .ok (.aload_n 0, 1) := by decide +kernel
theorem dX8_fits_1 : decode cX8_fits 1 = .ok (.getfield 102, 3) := by decide +kernel
theorem dX8_fits_4 : decode cX8_fits 4 = .ok (.iload_n 1, 1) := by decide +kernel
theorem dX8_fits_5 : decode cX8_fits 5 = .ok (.iaload, 1) := by decide +kernel
theorem dX8_fits_6 : decode cX8_fits 6 = .ok (.iload_n 2, 1) := by decide +kernel
theorem dX8_fits_7 : decode cX8_fits 7 = .ok (.iadd, 1) := by decide +kernel
theorem dX8_fits_8 : decode cX8_fits 8 = .ok (.aload_n 0, 1) := by decide +kernel
theorem dX8_fits_9 : decode cX8_fits 9 = .ok (.getfield 105, 3) := by decide +kernel
theorem dX8_fits_12 : decode cX8_fits 12 = .ok (.iload_n 1, 1) := by decide +kernel
theorem dX8_fits_13 : decode cX8_fits 13 = .ok (.iaload, 1) := by decide +kernel
theorem dX8_fits_14 : decode cX8_fits 14 = .ok (.if_icmp .gt 30, 3) := by decide +kernel
theorem dX8_fits_17 : decode cX8_fits 17 = .ok (.aload_n 0, 1) := by decide +kernel
theorem dX8_fits_18 : decode cX8_fits 18 = .ok (.getfield 108, 3) := by decide +kernel
theorem dX8_fits_21 : decode cX8_fits 21 = .ok (.iload_n 1, 1) := by decide +kernel
theorem dX8_fits_22 : decode cX8_fits 22 = .ok (.iaload, 1) := by decide +kernel
theorem dX8_fits_23 : decode cX8_fits 23 = .ok (.bipush 40, 2) := by decide +kernel
theorem dX8_fits_25 : decode cX8_fits 25 = .ok (.if_icmp .ge 19, 3) := by decide +kernel
theorem dX8_fits_28 : decode cX8_fits 28 = .ok (.aload_n 0, 1) := by decide +kernel
theorem dX8_fits_29 : decode cX8_fits 29 = .ok (.invokevirtual 220, 3) := by decide +kernel
theorem dX8_fits_32 : decode cX8_fits 32 = .ok (.iload_n 2, 1) := by decide +kernel
theorem dX8_fits_33 : decode cX8_fits 33 = .ok (.iadd, 1) := by decide +kernel
theorem dX8_fits_34 : decode cX8_fits 34 = .ok (.sipush 1000, 3) := by decide +kernel
theorem dX8_fits_37 : decode cX8_fits 37 = .ok (.if_icmp .gt 7, 3) := by decide +kernel
theorem dX8_fits_40 : decode cX8_fits 40 = .ok (.iconst 1, 1) := by decide +kernel
theorem dX8_fits_41 : decode cX8_fits 41 = .ok (.goto 4, 3) := by decide +kernel
theorem dX8_fits_44 : decode cX8_fits 44 = .ok (.iconst 0, 1) := by decide +kernel
theorem dX8_fits_45 : decode cX8_fits 45 = .ok (.ireturn, 1) := by decide +kernel
theorem dX8_wants_0 : decode cX8_wants 0 = .ok (.lload_n 2, 1) := by decide +kernel
theorem dX8_wants_1 : decode cX8_wants 1 = .ok (.lconst 0, 1) := by decide +kernel
theorem dX8_wants_2 : decode cX8_wants 2 = .ok (.lcmp, 1) := by decide +kernel
theorem dX8_wants_3 : decode cX8_wants 3 = .ok (.ifCond .eq 49, 3) := by decide +kernel
theorem dX8_wants_6 : decode cX8_wants 6 = .ok (.lload_n 2, 1) := by decide +kernel
theorem dX8_wants_7 : decode cX8_wants 7 = .ok (.lconst 0, 1) := by decide +kernel
theorem dX8_wants_8 : decode cX8_wants 8 = .ok (.lcmp, 1) := by decide +kernel
theorem dX8_wants_9 : decode cX8_wants 9 = .ok (.ifCond .le 29, 3) := by decide +kernel
theorem dX8_wants_12 : decode cX8_wants 12 = .ok (.lload_n 0, 1) := by decide +kernel
theorem dX8_wants_13 : decode cX8_wants 13 = .ok (.lload_n 2, 1) := by decide +kernel
theorem dX8_wants_14 : decode cX8_wants 14 = .ok (.lcmp, 1) := by decide +kernel
theorem dX8_wants_15 : decode cX8_wants 15 = .ok (.ifCond .ne 7, 3) := by decide +kernel
theorem dX8_wants_18 : decode cX8_wants 18 = .ok (.iconst 1, 1) := by decide +kernel
theorem dX8_wants_19 : decode cX8_wants 19 = .ok (.goto 4, 3) := by decide +kernel
theorem dX8_wants_22 : decode cX8_wants 22 = .ok (.iconst 0, 1) := by decide +kernel
theorem dX8_wants_23 : decode cX8_wants 23 = .ok (.iload 4, 2) := by decide +kernel
theorem dX8_wants_25 : decode cX8_wants 25 = .ok (.iconst 4, 1) := by decide +kernel
theorem dX8_wants_26 : decode cX8_wants 26 = .ok (.iand, 1) := by decide +kernel
theorem dX8_wants_27 : decode cX8_wants 27 = .ok (.ifCond .ne 7, 3) := by decide +kernel
theorem dX8_wants_30 : decode cX8_wants 30 = .ok (.iconst 1, 1) := by decide +kernel
theorem dX8_wants_31 : decode cX8_wants 31 = .ok (.goto 4, 3) := by decide +kernel
theorem dX8_wants_34 : decode cX8_wants 34 = .ok (.iconst 0, 1) := by decide +kernel
theorem dX8_wants_35 : decode cX8_wants 35 = .ok (.if_icmp .eq 17, 3) := by decide +kernel
theorem dX8_wants_38 : decode cX8_wants 38 = .ok (.lload_n 2, 1) := by decide +kernel
theorem dX8_wants_39 : decode cX8_wants 39 = .ok (.lconst 0, 1) := by decide +kernel
theorem dX8_wants_40 : decode cX8_wants 40 = .ok (.lcmp, 1) := by decide +kernel
theorem dX8_wants_41 : decode cX8_wants 41 = .ok (.ifCond .ge 15, 3) := by decide +kernel
theorem dX8_wants_44 : decode cX8_wants 44 = .ok (.lload_n 0, 1) := by decide +kernel
theorem dX8_wants_45 : decode cX8_wants 45 = .ok (.lload_n 2, 1) := by decide +kernel
theorem dX8_wants_46 : decode cX8_wants 46 = .ok (.ladd, 1) := by decide +kernel
theorem dX8_wants_47 : decode cX8_wants 47 = .ok (.lconst 0, 1) := by decide +kernel
theorem dX8_wants_48 : decode cX8_wants 48 = .ok (.lcmp, 1) := by decide +kernel
theorem dX8_wants_49 : decode cX8_wants 49 = .ok (.ifCond .gt 7, 3) := by decide +kernel
theorem dX8_wants_52 : decode cX8_wants 52 = .ok (.iconst 1, 1) := by decide +kernel
theorem dX8_wants_53 : decode cX8_wants 53 = .ok (.goto 4, 3) := by decide +kernel
theorem dX8_wants_56 : decode cX8_wants 56 = .ok (.iconst 0, 1) := by decide +kernel
theorem dX8_wants_57 : decode cX8_wants 57 = .ok (.ireturn, 1) := by decide +kernel
theorem dX8_give_0 : decode cX8_give 0 = .ok (.iload 4, 2) := by decide +kernel
theorem dX8_give_2 : decode cX8_give 2 = .ok (.iload 7, 2) := by decide +kernel
theorem dX8_give_4 : decode cX8_give 4 = .ok (.if_icmp .ge 8, 3) := by decide +kernel
theorem dX8_give_7 : decode cX8_give 7 = .ok (.iload 4, 2) := by decide +kernel
theorem dX8_give_9 : decode cX8_give 9 = .ok (.goto 5, 3) := by decide +kernel
theorem dX8_give_12 : decode cX8_give 12 = .ok (.iload 7, 2) := by decide +kernel
theorem dX8_give_14 : decode cX8_give 14 = .ok (.istore 8, 2) := by decide +kernel
theorem dX8_give_16 : decode cX8_give 16 = .ok (.iconst 0, 1) := by decide +kernel
theorem dX8_give_17 : decode cX8_give 17 = .ok (.istore 9, 2) := by decide +kernel
theorem dX8_give_19 : decode cX8_give 19 = .ok (.iload 9, 2) := by decide +kernel
theorem dX8_give_21 : decode cX8_give 21 = .ok (.iload 8, 2) := by decide +kernel
theorem dX8_give_23 : decode cX8_give 23 = .ok (.if_icmp .ge 29, 3) := by decide +kernel
theorem dX8_give_26 : decode cX8_give 26 = .ok (.aload_n 0, 1) := by decide +kernel
theorem dX8_give_27 : decode cX8_give 27 = .ok (.getfield 23, 3) := by decide +kernel
theorem dX8_give_30 : decode cX8_give 30 = .ok (.bipush 64, 2) := by decide +kernel
theorem dX8_give_32 : decode cX8_give 32 = .ok (.iload_n 1, 1) := by decide +kernel
theorem dX8_give_33 : decode cX8_give 33 = .ok (.imul, 1) := by decide +kernel
theorem dX8_give_34 : decode cX8_give 34 = .ok (.iload 9, 2) := by decide +kernel
theorem dX8_give_36 : decode cX8_give 36 = .ok (.iadd, 1) := by decide +kernel
theorem dX8_give_37 : decode cX8_give 37 = .ok (.aload 5, 2) := by decide +kernel
theorem dX8_give_39 : decode cX8_give 39 = .ok (.iload 6, 2) := by decide +kernel
theorem dX8_give_41 : decode cX8_give 41 = .ok (.iload 9, 2) := by decide +kernel
theorem dX8_give_43 : decode cX8_give 43 = .ok (.iadd, 1) := by decide +kernel
theorem dX8_give_44 : decode cX8_give 44 = .ok (.iaload, 1) := by decide +kernel
theorem dX8_give_45 : decode cX8_give 45 = .ok (.iastore, 1) := by decide +kernel
theorem dX8_give_46 : decode cX8_give 46 = .ok (.iinc 9 1, 3) := by decide +kernel
theorem dX8_give_49 : decode cX8_give 49 = .ok (.goto (-30), 3) := by decide +kernel
theorem dX8_give_52 : decode cX8_give 52 = .ok (.aload_n 0, 1) := by decide +kernel
theorem dX8_give_53 : decode cX8_give 53 = .ok (.getfield 26, 3) := by decide +kernel
theorem dX8_give_56 : decode cX8_give 56 = .ok (.iload_n 1, 1) := by decide +kernel
theorem dX8_give_57 : decode cX8_give 57 = .ok (.lload_n 2, 1) := by decide +kernel
theorem dX8_give_58 : decode cX8_give 58 = .ok (.lastore, 1) := by decide +kernel
theorem dX8_give_59 : decode cX8_give 59 = .ok (.aload_n 0, 1) := by decide +kernel
theorem dX8_give_60 : decode cX8_give 60 = .ok (.getfield 20, 3) := by decide +kernel
theorem dX8_give_63 : decode cX8_give 63 = .ok (.iload_n 1, 1) := by decide +kernel
theorem dX8_give_64 : decode cX8_give 64 = .ok (.iload 8, 2) := by decide +kernel
theorem dX8_give_66 : decode cX8_give 66 = .ok (.iastore, 1) := by decide +kernel
theorem dX8_give_67 : decode cX8_give 67 = .ok (.return_, 1) := by decide +kernel
theorem dX8_isSent_0 : decode cX8_isSent 0 = .ok (.aload_n 0, 1) := by decide +kernel
theorem dX8_isSent_1 : decode cX8_isSent 1 = .ok (.getfield 39, 3) := by decide +kernel
theorem dX8_isSent_4 : decode cX8_isSent 4 = .ok (.iload_n 2, 1) := by decide +kernel
theorem dX8_isSent_5 : decode cX8_isSent 5 = .ok (.laload, 1) := by decide +kernel
theorem dX8_isSent_6 : decode cX8_isSent 6 = .ok (.lstore_n 3, 1) := by decide +kernel
theorem dX8_isSent_7 : decode cX8_isSent 7 = .ok (.aload_n 0, 1) := by decide +kernel
theorem dX8_isSent_8 : decode cX8_isSent 8 = .ok (.getfield 42, 3) := by decide +kernel
theorem dX8_isSent_11 : decode cX8_isSent 11 = .ok (.iload_n 2, 1) := by decide +kernel
theorem dX8_isSent_12 : decode cX8_isSent 12 = .ok (.iaload, 1) := by decide +kernel
theorem dX8_isSent_13 : decode cX8_isSent 13 = .ok (.istore 5, 2) := by decide +kernel
theorem dX8_isSent_15 : decode cX8_isSent 15 = .ok (.aload_n 0, 1) := by decide +kernel
theorem dX8_isSent_16 : decode cX8_isSent 16 = .ok (.iconst 2, 1) := by decide +kernel
theorem dX8_isSent_17 : decode cX8_isSent 17 = .ok (.iload_n 1, 1) := by decide +kernel
theorem dX8_isSent_18 : decode cX8_isSent 18 = .ok (.iconst 0, 1) := by decide +kernel
theorem dX8_isSent_19 : decode cX8_isSent 19 = .ok (.invokevirtual 224, 3) := by decide +kernel
theorem dX8_isSent_22 : decode cX8_isSent 22 = .ok (.istore 6, 2) := by decide +kernel
theorem dX8_isSent_24 : decode cX8_isSent 24 = .ok (.iload 6, 2) := by decide +kernel
theorem dX8_isSent_26 : decode cX8_isSent 26 = .ok (.iconst (-1), 1) := by decide +kernel
theorem dX8_isSent_27 : decode cX8_isSent 27 = .ok (.if_icmp .eq 111, 3) := by decide +kernel
theorem dX8_isSent_30 : decode cX8_isSent 30 = .ok (.lload_n 3, 1) := by decide +kernel
theorem dX8_isSent_31 : decode cX8_isSent 31 = .ok (.aload_n 0, 1) := by decide +kernel
theorem dX8_isSent_32 : decode cX8_isSent 32 = .ok (.getfield 39, 3) := by decide +kernel
theorem dX8_isSent_35 : decode cX8_isSent 35 = .ok (.iload 6, 2) := by decide +kernel
theorem dX8_isSent_37 : decode cX8_isSent 37 = .ok (.laload, 1) := by decide +kernel
theorem dX8_isSent_38 : decode cX8_isSent 38 = .ok (.aload_n 0, 1) := by decide +kernel
theorem dX8_isSent_39 : decode cX8_isSent 39 = .ok (.getfield 45, 3) := by decide +kernel
theorem dX8_isSent_42 : decode cX8_isSent 42 = .ok (.iload 6, 2) := by decide +kernel
theorem dX8_isSent_44 : decode cX8_isSent 44 = .ok (.iaload, 1) := by decide +kernel
theorem dX8_isSent_45 : decode cX8_isSent 45 = .ok (.invokestatic 228, 3) := by decide +kernel
theorem dX8_isSent_48 : decode cX8_isSent 48 = .ok (.ifCond .eq 72, 3) := by decide +kernel
theorem dX8_isSent_51 : decode cX8_isSent 51 = .ok (.iload 5, 2) := by decide +kernel
theorem dX8_isSent_53 : decode cX8_isSent 53 = .ok (.aload_n 0, 1) := by decide +kernel
theorem dX8_isSent_54 : decode cX8_isSent 54 = .ok (.getfield 42, 3) := by decide +kernel
theorem dX8_isSent_57 : decode cX8_isSent 57 = .ok (.iload 6, 2) := by decide +kernel
theorem dX8_isSent_59 : decode cX8_isSent 59 = .ok (.iaload, 1) := by decide +kernel
theorem dX8_isSent_60 : decode cX8_isSent 60 = .ok (.if_icmp .le 26, 3) := by decide +kernel
theorem dX8_isSent_63 : decode cX8_isSent 63 = .ok (.aload_n 0, 1) := by decide +kernel
theorem dX8_isSent_64 : decode cX8_isSent 64 = .ok (.getfield 45, 3) := by decide +kernel
theorem dX8_isSent_67 : decode cX8_isSent 67 = .ok (.iload 6, 2) := by decide +kernel
theorem dX8_isSent_69 : decode cX8_isSent 69 = .ok (.iaload, 1) := by decide +kernel
theorem dX8_isSent_70 : decode cX8_isSent 70 = .ok (.iconst 2, 1) := by decide +kernel
theorem dX8_isSent_71 : decode cX8_isSent 71 = .ok (.iand, 1) := by decide +kernel
theorem dX8_isSent_72 : decode cX8_isSent 72 = .ok (.ifCond .ne 14, 3) := by decide +kernel
theorem dX8_isSent_75 : decode cX8_isSent 75 = .ok (.aload_n 0, 1) := by decide +kernel
theorem dX8_isSent_76 : decode cX8_isSent 76 = .ok (.iload 6, 2) := by decide +kernel
theorem dX8_isSent_78 : decode cX8_isSent 78 = .ok (.bipush (-13), 2) := by decide +kernel
theorem dX8_isSent_80 : decode cX8_isSent 80 = .ok (.invokevirtual 156, 3) := by decide +kernel
theorem dX8_isSent_83 : decode cX8_isSent 83 = .ok (.goto 37, 3) := by decide +kernel
theorem dX8_isSent_86 : decode cX8_isSent 86 = .ok (.aload_n 0, 1) := by decide +kernel
theorem dX8_isSent_87 : decode cX8_isSent 87 = .ok (.getfield 30, 3) := by decide +kernel
theorem dX8_isSent_90 : decode cX8_isSent 90 = .ok (.iload 6, 2) := by decide +kernel
theorem dX8_isSent_92 : decode cX8_isSent 92 = .ok (.iconst 0, 1) := by decide +kernel
theorem dX8_isSent_93 : decode cX8_isSent 93 = .ok (.iastore, 1) := by decide +kernel
theorem dX8_isSent_94 : decode cX8_isSent 94 = .ok (.aload_n 0, 1) := by decide +kernel
theorem dX8_isSent_95 : decode cX8_isSent 95 = .ok (.iload 6, 2) := by decide +kernel
theorem dX8_isSent_97 : decode cX8_isSent 97 = .ok (.lload_n 3, 1) := by decide +kernel
theorem dX8_isSent_98 : decode cX8_isSent 98 = .ok (.iload 5, 2) := by decide +kernel
theorem dX8_isSent_100 : decode cX8_isSent 100 = .ok (.aload_n 0, 1) := by decide +kernel
theorem dX8_isSent_101 : decode cX8_isSent 101 = .ok (.getfield 48, 3) := by decide +kernel
theorem dX8_isSent_104 : decode cX8_isSent 104 = .ok (.bipush 64, 2) := by decide +kernel
theorem dX8_isSent_106 : decode cX8_isSent 106 = .ok (.iload_n 2, 1) := by decide +kernel
theorem dX8_isSent_107 : decode cX8_isSent 107 = .ok (.imul, 1) := by decide +kernel
theorem dX8_isSent_108 : decode cX8_isSent 108 = .ok (.aload_n 0, 1) := by decide +kernel
theorem dX8_isSent_109 : decode cX8_isSent 109 = .ok (.getfield 42, 3) := by decide +kernel
theorem dX8_isSent_112 : decode cX8_isSent 112 = .ok (.iload 6, 2) := by decide +kernel
theorem dX8_isSent_114 : decode cX8_isSent 114 = .ok (.iaload, 1) := by decide +kernel
theorem dX8_isSent_115 : decode cX8_isSent 115 = .ok (.invokevirtual 232, 3) := by decide +kernel
theorem dX8_isSent_118 : decode cX8_isSent 118 = .ok (.iconst 1, 1) := by decide +kernel
theorem dX8_isSent_119 : decode cX8_isSent 119 = .ok (.ireturn, 1) := by decide +kernel
theorem dX8_isSent_120 : decode cX8_isSent 120 = .ok (.aload_n 0, 1) := by decide +kernel
theorem dX8_isSent_121 : decode cX8_isSent 121 = .ok (.iconst 2, 1) := by decide +kernel
theorem dX8_isSent_122 : decode cX8_isSent 122 = .ok (.iload_n 1, 1) := by decide +kernel
theorem dX8_isSent_123 : decode cX8_isSent 123 = .ok (.aload_n 0, 1) := by decide +kernel
theorem dX8_isSent_124 : decode cX8_isSent 124 = .ok (.getfield 33, 3) := by decide +kernel
theorem dX8_isSent_127 : decode cX8_isSent 127 = .ok (.iload 6, 2) := by decide +kernel
theorem dX8_isSent_129 : decode cX8_isSent 129 = .ok (.iaload, 1) := by decide +kernel
theorem dX8_isSent_130 : decode cX8_isSent 130 = .ok (.invokevirtual 224, 3) := by decide +kernel
theorem dX8_isSent_133 : decode cX8_isSent 133 = .ok (.istore 6, 2) := by decide +kernel
theorem dX8_isSent_135 : decode cX8_isSent 135 = .ok (.goto (-111), 3) := by decide +kernel
theorem dX8_isSent_138 : decode cX8_isSent 138 = .ok (.aload_n 0, 1) := by decide +kernel
theorem dX8_isSent_139 : decode cX8_isSent 139 = .ok (.iload_n 1, 1) := by decide +kernel
theorem dX8_isSent_140 : decode cX8_isSent 140 = .ok (.iload 5, 2) := by decide +kernel
theorem dX8_isSent_142 : decode cX8_isSent 142 = .ok (.invokevirtual 236, 3) := by decide +kernel
theorem dX8_isSent_145 : decode cX8_isSent 145 = .ok (.ifCond .ne 5, 3) := by decide +kernel
theorem dX8_isSent_148 : decode cX8_isSent 148 = .ok (.iconst 0, 1) := by decide +kernel
theorem dX8_isSent_149 : decode cX8_isSent 149 = .ok (.ireturn, 1) := by decide +kernel
theorem dX8_isSent_150 : decode cX8_isSent 150 = .ok (.bipush 40, 2) := by decide +kernel
theorem dX8_isSent_152 : decode cX8_isSent 152 = .ok (.iload_n 1, 1) := by decide +kernel
theorem dX8_isSent_153 : decode cX8_isSent 153 = .ok (.imul, 1) := by decide +kernel
theorem dX8_isSent_154 : decode cX8_isSent 154 = .ok (.aload_n 0, 1) := by decide +kernel
theorem dX8_isSent_155 : decode cX8_isSent 155 = .ok (.getfield 108, 3) := by decide +kernel
theorem dX8_isSent_158 : decode cX8_isSent 158 = .ok (.iload_n 1, 1) := by decide +kernel
theorem dX8_isSent_159 : decode cX8_isSent 159 = .ok (.iaload, 1) := by decide +kernel
theorem dX8_isSent_160 : decode cX8_isSent 160 = .ok (.iadd, 1) := by decide +kernel
theorem dX8_isSent_161 : decode cX8_isSent 161 = .ok (.istore 6, 2) := by decide +kernel
theorem dX8_isSent_163 : decode cX8_isSent 163 = .ok (.aload_n 0, 1) := by decide +kernel
theorem dX8_isSent_164 : decode cX8_isSent 164 = .ok (.getfield 111, 3) := by decide +kernel
theorem dX8_isSent_167 : decode cX8_isSent 167 = .ok (.iload 6, 2) := by decide +kernel
theorem dX8_isSent_169 : decode cX8_isSent 169 = .ok (.lload_n 3, 1) := by decide +kernel
theorem dX8_isSent_170 : decode cX8_isSent 170 = .ok (.lastore, 1) := by decide +kernel
theorem dX8_isSent_171 : decode cX8_isSent 171 = .ok (.aload_n 0, 1) := by decide +kernel
theorem dX8_isSent_172 : decode cX8_isSent 172 = .ok (.getfield 114, 3) := by decide +kernel
theorem dX8_isSent_175 : decode cX8_isSent 175 = .ok (.iload 6, 2) := by decide +kernel
theorem dX8_isSent_177 : decode cX8_isSent 177 = .ok (.iload 5, 2) := by decide +kernel
theorem dX8_isSent_179 : decode cX8_isSent 179 = .ok (.iastore, 1) := by decide +kernel
theorem dX8_isSent_180 : decode cX8_isSent 180 = .ok (.iconst 0, 1) := by decide +kernel
theorem dX8_isSent_181 : decode cX8_isSent 181 = .ok (.istore 7, 2) := by decide +kernel
theorem dX8_isSent_183 : decode cX8_isSent 183 = .ok (.iload 7, 2) := by decide +kernel
theorem dX8_isSent_185 : decode cX8_isSent 185 = .ok (.iload 5, 2) := by decide +kernel
theorem dX8_isSent_187 : decode cX8_isSent 187 = .ok (.if_icmp .ge 34, 3) := by decide +kernel
theorem dX8_isSent_190 : decode cX8_isSent 190 = .ok (.aload_n 0, 1) := by decide +kernel
theorem dX8_isSent_191 : decode cX8_isSent 191 = .ok (.getfield 117, 3) := by decide +kernel
theorem dX8_isSent_194 : decode cX8_isSent 194 = .ok (.bipush 64, 2) := by decide +kernel
theorem dX8_isSent_196 : decode cX8_isSent 196 = .ok (.iload 6, 2) := by decide +kernel
theorem dX8_isSent_198 : decode cX8_isSent 198 = .ok (.imul, 1) := by decide +kernel
theorem dX8_isSent_199 : decode cX8_isSent 199 = .ok (.iload 7, 2) := by decide +kernel
theorem dX8_isSent_201 : decode cX8_isSent 201 = .ok (.iadd, 1) := by decide +kernel
theorem dX8_isSent_202 : decode cX8_isSent 202 = .ok (.aload_n 0, 1) := by decide +kernel
theorem dX8_isSent_203 : decode cX8_isSent 203 = .ok (.getfield 48, 3) := by decide +kernel
theorem dX8_isSent_206 : decode cX8_isSent 206 = .ok (.bipush 64, 2) := by decide +kernel
theorem dX8_isSent_208 : decode cX8_isSent 208 = .ok (.iload_n 2, 1) := by decide +kernel
theorem dX8_isSent_209 : decode cX8_isSent 209 = .ok (.imul, 1) := by decide +kernel
theorem dX8_isSent_210 : decode cX8_isSent 210 = .ok (.iload 7, 2) := by decide +kernel
theorem dX8_isSent_212 : decode cX8_isSent 212 = .ok (.iadd, 1) := by decide +kernel
theorem dX8_isSent_213 : decode cX8_isSent 213 = .ok (.iaload, 1) := by decide +kernel
theorem dX8_isSent_214 : decode cX8_isSent 214 = .ok (.iastore, 1) := by decide +kernel
theorem dX8_isSent_215 : decode cX8_isSent 215 = .ok (.iinc 7 1, 3) := by decide +kernel
theorem dX8_isSent_218 : decode cX8_isSent 218 = .ok (.goto (-35), 3) := by decide +kernel
theorem dX8_isSent_221 : decode cX8_isSent 221 = .ok (.aload_n 0, 1) := by decide +kernel
theorem dX8_isSent_222 : decode cX8_isSent 222 = .ok (.getfield 108, 3) := by decide +kernel
theorem dX8_isSent_225 : decode cX8_isSent 225 = .ok (.iload_n 1, 1) := by decide +kernel
theorem dX8_isSent_226 : decode cX8_isSent 226 = .ok (.dup2, 1) := by decide +kernel
theorem dX8_isSent_227 : decode cX8_isSent 227 = .ok (.iaload, 1) := by decide +kernel
theorem dX8_isSent_228 : decode cX8_isSent 228 = .ok (.iconst 1, 1) := by decide +kernel
theorem dX8_isSent_229 : decode cX8_isSent 229 = .ok (.iadd, 1) := by decide +kernel
theorem dX8_isSent_230 : decode cX8_isSent 230 = .ok (.iastore, 1) := by decide +kernel
theorem dX8_isSent_231 : decode cX8_isSent 231 = .ok (.aload_n 0, 1) := by decide +kernel
theorem dX8_isSent_232 : decode cX8_isSent 232 = .ok (.getfield 102, 3) := by decide +kernel
theorem dX8_isSent_235 : decode cX8_isSent 235 = .ok (.iload_n 1, 1) := by decide +kernel
theorem dX8_isSent_236 : decode cX8_isSent 236 = .ok (.dup2, 1) := by decide +kernel
theorem dX8_isSent_237 : decode cX8_isSent 237 = .ok (.iaload, 1) := by decide +kernel
theorem dX8_isSent_238 : decode cX8_isSent 238 = .ok (.iload 5, 2) := by decide +kernel
theorem dX8_isSent_240 : decode cX8_isSent 240 = .ok (.iadd, 1) := by decide +kernel
theorem dX8_isSent_241 : decode cX8_isSent 241 = .ok (.iastore, 1) := by decide +kernel
theorem dX8_isSent_242 : decode cX8_isSent 242 = .ok (.iconst 1, 1) := by decide +kernel
theorem dX8_isSent_243 : decode cX8_isSent 243 = .ok (.ireturn, 1) := by decide +kernel
theorem dX8_lookAtSenders_0 : decode cX8_lookAtSenders 0 = .ok (.iconst 1, 1) := by decide +kernel
theorem dX8_lookAtSenders_1 : decode cX8_lookAtSenders 1 = .ok (.istore_n 1, 1) := by decide +kernel
theorem dX8_lookAtSenders_2 : decode cX8_lookAtSenders 2 = .ok (.iload_n 1, 1) := by decide +kernel
theorem dX8_lookAtSenders_3 : decode cX8_lookAtSenders 3 = .ok (.ifCond .eq 78, 3) := by decide +kernel
theorem dX8_lookAtSenders_6 : decode cX8_lookAtSenders 6 = .ok (.iconst 0, 1) := by decide +kernel
theorem dX8_lookAtSenders_7 : decode cX8_lookAtSenders 7 = .ok (.istore_n 1, 1) := by decide +kernel
theorem dX8_lookAtSenders_8 : decode cX8_lookAtSenders 8 = .ok (.aload_n 0, 1) := by decide +kernel
theorem dX8_lookAtSenders_9 : decode cX8_lookAtSenders 9 = .ok (.iconst 1, 1) := by decide +kernel
theorem dX8_lookAtSenders_10 : decode cX8_lookAtSenders 10 = .ok (.iconst (-1), 1) := by decide +kernel
theorem dX8_lookAtSenders_11 : decode cX8_lookAtSenders 11 = .ok (.iconst 0, 1) := by decide +kernel
theorem dX8_lookAtSenders_12 : decode cX8_lookAtSenders 12 = .ok (.invokevirtual 224, 3) := by decide +kernel
theorem dX8_lookAtSenders_15 : decode cX8_lookAtSenders 15 = .ok (.istore_n 2, 1) := by decide +kernel
theorem dX8_lookAtSenders_16 : decode cX8_lookAtSenders 16 = .ok (.iload_n 2, 1) := by decide +kernel
theorem dX8_lookAtSenders_17 : decode cX8_lookAtSenders 17 = .ok (.iconst (-1), 1) := by decide +kernel
theorem dX8_lookAtSenders_18 : decode cX8_lookAtSenders 18 = .ok (.if_icmp .eq 60, 3) := by decide +kernel
theorem dX8_lookAtSenders_21 : decode cX8_lookAtSenders 21 = .ok (.iload_n 1, 1) := by decide +kernel
theorem dX8_lookAtSenders_22 : decode cX8_lookAtSenders 22 = .ok (.ifCond .ne 56, 3) := by decide +kernel
theorem dX8_lookAtSenders_25 : decode cX8_lookAtSenders 25 = .ok (.aload_n 0, 1) := by decide +kernel
theorem dX8_lookAtSenders_26 : decode cX8_lookAtSenders 26 = .ok (.aload_n 0, 1) := by decide +kernel
theorem dX8_lookAtSenders_27 : decode cX8_lookAtSenders 27 = .ok (.getfield 36, 3) := by decide +kernel
theorem dX8_lookAtSenders_30 : decode cX8_lookAtSenders 30 = .ok (.iload_n 2, 1) := by decide +kernel
theorem dX8_lookAtSenders_31 : decode cX8_lookAtSenders 31 = .ok (.iaload, 1) := by decide +kernel
theorem dX8_lookAtSenders_32 : decode cX8_lookAtSenders 32 = .ok (.aload_n 0, 1) := by decide +kernel
theorem dX8_lookAtSenders_33 : decode cX8_lookAtSenders 33 = .ok (.getfield 42, 3) := by decide +kernel
theorem dX8_lookAtSenders_36 : decode cX8_lookAtSenders 36 = .ok (.iload_n 2, 1) := by decide +kernel
theorem dX8_lookAtSenders_37 : decode cX8_lookAtSenders 37 = .ok (.iaload, 1) := by decide +kernel
theorem dX8_lookAtSenders_38 : decode cX8_lookAtSenders 38 = .ok (.invokevirtual 236, 3) := by decide +kernel
theorem dX8_lookAtSenders_41 : decode cX8_lookAtSenders 41 = .ok (.ifCond .eq 21, 3) := by decide +kernel
theorem dX8_lookAtSenders_44 : decode cX8_lookAtSenders 44 = .ok (.aload_n 0, 1) := by decide +kernel
theorem dX8_lookAtSenders_45 : decode cX8_lookAtSenders 45 = .ok (.aload_n 0, 1) := by decide +kernel
theorem dX8_lookAtSenders_46 : decode cX8_lookAtSenders 46 = .ok (.getfield 36, 3) := by decide +kernel
theorem dX8_lookAtSenders_49 : decode cX8_lookAtSenders 49 = .ok (.iload_n 2, 1) := by decide +kernel
theorem dX8_lookAtSenders_50 : decode cX8_lookAtSenders 50 = .ok (.iaload, 1) := by decide +kernel
theorem dX8_lookAtSenders_51 : decode cX8_lookAtSenders 51 = .ok (.iload_n 2, 1) := by decide +kernel
theorem dX8_lookAtSenders_52 : decode cX8_lookAtSenders 52 = .ok (.invokevirtual 239, 3) := by decide +kernel
theorem dX8_lookAtSenders_55 : decode cX8_lookAtSenders 55 = .ok (.istore_n 1, 1) := by decide +kernel
theorem dX8_lookAtSenders_56 : decode cX8_lookAtSenders 56 = .ok (.aload_n 0, 1) := by decide +kernel
theorem dX8_lookAtSenders_57 : decode cX8_lookAtSenders 57 = .ok (.iload_n 2, 1) := by decide +kernel
theorem dX8_lookAtSenders_58 : decode cX8_lookAtSenders 58 = .ok (.iconst 0, 1) := by decide +kernel
theorem dX8_lookAtSenders_59 : decode cX8_lookAtSenders 59 = .ok (.invokevirtual 156, 3) := by decide +kernel
theorem dX8_lookAtSenders_62 : decode cX8_lookAtSenders 62 = .ok (.aload_n 0, 1) := by decide +kernel
theorem dX8_lookAtSenders_63 : decode cX8_lookAtSenders 63 = .ok (.iconst 1, 1) := by decide +kernel
theorem dX8_lookAtSenders_64 : decode cX8_lookAtSenders 64 = .ok (.iconst (-1), 1) := by decide +kernel
theorem dX8_lookAtSenders_65 : decode cX8_lookAtSenders 65 = .ok (.aload_n 0, 1) := by decide +kernel
theorem dX8_lookAtSenders_66 : decode cX8_lookAtSenders 66 = .ok (.getfield 33, 3) := by decide +kernel
theorem dX8_lookAtSenders_69 : decode cX8_lookAtSenders 69 = .ok (.iload_n 2, 1) := by decide +kernel
theorem dX8_lookAtSenders_70 : decode cX8_lookAtSenders 70 = .ok (.iaload, 1) := by decide +kernel
theorem dX8_lookAtSenders_71 : decode cX8_lookAtSenders 71 = .ok (.invokevirtual 224, 3) := by decide +kernel
theorem dX8_lookAtSenders_74 : decode cX8_lookAtSenders 74 = .ok (.istore_n 2, 1) := by decide +kernel
theorem dX8_lookAtSenders_75 : decode cX8_lookAtSenders 75 = .ok (.goto (-59), 3) := by decide +kernel
theorem dX8_lookAtSenders_78 : decode cX8_lookAtSenders 78 = .ok (.goto (-76), 3) := by decide +kernel
theorem dX8_lookAtSenders_81 : decode cX8_lookAtSenders 81 = .ok (.return_, 1) := by decide +kernel
theorem dX8_send_0 : decode cX8_send 0 = .ok (.aload_n 0, 1) := by decide +kernel
theorem dX8_send_1 : decode cX8_send 1 = .ok (.iload_n 1, 1) := by decide +kernel
theorem dX8_send_2 : decode cX8_send 2 = .ok (.invokevirtual 152, 3) := by decide +kernel
theorem dX8_send_5 : decode cX8_send 5 = .ok (.ifCond .ne 6, 3) := by decide +kernel
theorem dX8_send_8 : decode cX8_send 8 = .ok (.bipush (-2), 2) := by decide +kernel
theorem dX8_send_10 : decode cX8_send 10 = .ok (.ireturn, 1) := by decide +kernel
theorem dX8_send_11 : decode cX8_send 11 = .ok (.aload_n 0, 1) := by decide +kernel
theorem dX8_send_12 : decode cX8_send 12 = .ok (.iload_n 1, 1) := by decide +kernel
theorem dX8_send_13 : decode cX8_send 13 = .ok (.invokevirtual 173, 3) := by decide +kernel
theorem dX8_send_16 : decode cX8_send 16 = .ok (.ifCond .ne 6, 3) := by decide +kernel
theorem dX8_send_19 : decode cX8_send 19 = .ok (.bipush (-3), 2) := by decide +kernel
theorem dX8_send_21 : decode cX8_send 21 = .ok (.ireturn, 1) := by decide +kernel
theorem dX8_send_22 : decode cX8_send 22 = .ok (.lload_n 3, 1) := by decide +kernel
theorem dX8_send_23 : decode cX8_send 23 = .ok (.lconst 1, 1) := by decide +kernel
theorem dX8_send_24 : decode cX8_send 24 = .ok (.lcmp, 1) := by decide +kernel
theorem dX8_send_25 : decode cX8_send 25 = .ok (.ifCond .lt 16, 3) := by decide +kernel
theorem dX8_send_28 : decode cX8_send 28 = .ok (.iload 5, 2) := by decide +kernel
theorem dX8_send_30 : decode cX8_send 30 = .ok (.i2l, 1) := by decide +kernel
theorem dX8_send_31 : decode cX8_send 31 = .ok (.lconst 0, 1) := by decide +kernel
theorem dX8_send_32 : decode cX8_send 32 = .ok (.ldc2_w 242, 3) := by decide +kernel
theorem dX8_send_35 : decode cX8_send 35 = .ok (.invokestatic 142, 3) := by decide +kernel
theorem dX8_send_38 : decode cX8_send 38 = .ok (.ifCond .ne 11, 3) := by decide +kernel
theorem dX8_send_41 : decode cX8_send 41 = .ok (.aload_n 0, 1) := by decide +kernel
theorem dX8_send_42 : decode cX8_send 42 = .ok (.iload_n 1, 1) := by decide +kernel
theorem dX8_send_43 : decode cX8_send 43 = .ok (.bipush (-4), 2) := by decide +kernel
theorem dX8_send_45 : decode cX8_send 45 = .ok (.invokevirtual 180, 3) := by decide +kernel
theorem dX8_send_48 : decode cX8_send 48 = .ok (.ireturn, 1) := by decide +kernel
theorem dX8_send_49 : decode cX8_send 49 = .ok (.aload_n 0, 1) := by decide +kernel
theorem dX8_send_50 : decode cX8_send 50 = .ok (.iload_n 2, 1) := by decide +kernel
theorem dX8_send_51 : decode cX8_send 51 = .ok (.iconst 0, 1) := by decide +kernel
theorem dX8_send_52 : decode cX8_send 52 = .ok (.invokevirtual 206, 3) := by decide +kernel
theorem dX8_send_55 : decode cX8_send 55 = .ok (.istore 7, 2) := by decide +kernel
theorem dX8_send_57 : decode cX8_send 57 = .ok (.iload 7, 2) := by decide +kernel
theorem dX8_send_59 : decode cX8_send 59 = .ok (.iconst (-1), 1) := by decide +kernel
theorem dX8_send_60 : decode cX8_send 60 = .ok (.if_icmp .eq 15, 3) := by decide +kernel
theorem dX8_send_63 : decode cX8_send 63 = .ok (.iload 5, 2) := by decide +kernel
theorem dX8_send_65 : decode cX8_send 65 = .ok (.aload_n 0, 1) := by decide +kernel
theorem dX8_send_66 : decode cX8_send 66 = .ok (.getfield 105, 3) := by decide +kernel
theorem dX8_send_69 : decode cX8_send 69 = .ok (.iload 7, 2) := by decide +kernel
theorem dX8_send_71 : decode cX8_send 71 = .ok (.iaload, 1) := by decide +kernel
theorem dX8_send_72 : decode cX8_send 72 = .ok (.if_icmp .le 11, 3) := by decide +kernel
theorem dX8_send_75 : decode cX8_send 75 = .ok (.aload_n 0, 1) := by decide +kernel
theorem dX8_send_76 : decode cX8_send 76 = .ok (.iload_n 1, 1) := by decide +kernel
theorem dX8_send_77 : decode cX8_send 77 = .ok (.bipush (-5), 2) := by decide +kernel
theorem dX8_send_79 : decode cX8_send 79 = .ok (.invokevirtual 180, 3) := by decide +kernel
theorem dX8_send_82 : decode cX8_send 82 = .ok (.ireturn, 1) := by decide +kernel
theorem dX8_send_83 : decode cX8_send 83 = .ok (.aload_n 0, 1) := by decide +kernel
theorem dX8_send_84 : decode cX8_send 84 = .ok (.iload_n 1, 1) := by decide +kernel
theorem dX8_send_85 : decode cX8_send 85 = .ok (.iload 7, 2) := by decide +kernel
theorem dX8_send_87 : decode cX8_send 87 = .ok (.iconst 2, 1) := by decide +kernel
theorem dX8_send_88 : decode cX8_send 88 = .ok (.invokevirtual 190, 3) := by decide +kernel
theorem dX8_send_91 : decode cX8_send 91 = .ok (.ifCond .ne 11, 3) := by decide +kernel
theorem dX8_send_94 : decode cX8_send 94 = .ok (.aload_n 0, 1) := by decide +kernel
theorem dX8_send_95 : decode cX8_send 95 = .ok (.iload_n 1, 1) := by decide +kernel
theorem dX8_send_96 : decode cX8_send 96 = .ok (.bipush (-6), 2) := by decide +kernel
theorem dX8_send_98 : decode cX8_send 98 = .ok (.invokevirtual 180, 3) := by decide +kernel
theorem dX8_send_101 : decode cX8_send 101 = .ok (.ireturn, 1) := by decide +kernel
theorem dX8_send_102 : decode cX8_send 102 = .ok (.aload_n 0, 1) := by decide +kernel
theorem dX8_send_103 : decode cX8_send 103 = .ok (.getfield 39, 3) := by decide +kernel
theorem dX8_send_106 : decode cX8_send 106 = .ok (.iload_n 1, 1) := by decide +kernel
theorem dX8_send_107 : decode cX8_send 107 = .ok (.lload_n 3, 1) := by decide +kernel
theorem dX8_send_108 : decode cX8_send 108 = .ok (.lastore, 1) := by decide +kernel
theorem dX8_send_109 : decode cX8_send 109 = .ok (.aload_n 0, 1) := by decide +kernel
theorem dX8_send_110 : decode cX8_send 110 = .ok (.getfield 42, 3) := by decide +kernel
theorem dX8_send_113 : decode cX8_send 113 = .ok (.iload_n 1, 1) := by decide +kernel
theorem dX8_send_114 : decode cX8_send 114 = .ok (.iload 5, 2) := by decide +kernel
theorem dX8_send_116 : decode cX8_send 116 = .ok (.iastore, 1) := by decide +kernel
theorem dX8_send_117 : decode cX8_send 117 = .ok (.iconst 0, 1) := by decide +kernel
theorem dX8_send_118 : decode cX8_send 118 = .ok (.istore 8, 2) := by decide +kernel
theorem dX8_send_120 : decode cX8_send 120 = .ok (.iload 8, 2) := by decide +kernel
theorem dX8_send_122 : decode cX8_send 122 = .ok (.bipush 64, 2) := by decide +kernel
theorem dX8_send_124 : decode cX8_send 124 = .ok (.if_icmp .ge 33, 3) := by decide +kernel
theorem dX8_send_127 : decode cX8_send 127 = .ok (.aload_n 0, 1) := by decide +kernel
theorem dX8_send_128 : decode cX8_send 128 = .ok (.getfield 48, 3) := by decide +kernel
theorem dX8_send_131 : decode cX8_send 131 = .ok (.bipush 64, 2) := by decide +kernel
theorem dX8_send_133 : decode cX8_send 133 = .ok (.iload_n 1, 1) := by decide +kernel
theorem dX8_send_134 : decode cX8_send 134 = .ok (.imul, 1) := by decide +kernel
theorem dX8_send_135 : decode cX8_send 135 = .ok (.iload 8, 2) := by decide +kernel
theorem dX8_send_137 : decode cX8_send 137 = .ok (.iadd, 1) := by decide +kernel
theorem dX8_send_138 : decode cX8_send 138 = .ok (.aload_n 0, 1) := by decide +kernel
theorem dX8_send_139 : decode cX8_send 139 = .ok (.getfield 23, 3) := by decide +kernel
theorem dX8_send_142 : decode cX8_send 142 = .ok (.bipush 64, 2) := by decide +kernel
theorem dX8_send_144 : decode cX8_send 144 = .ok (.iload_n 1, 1) := by decide +kernel
theorem dX8_send_145 : decode cX8_send 145 = .ok (.imul, 1) := by decide +kernel
theorem dX8_send_146 : decode cX8_send 146 = .ok (.iload 8, 2) := by decide +kernel
theorem dX8_send_148 : decode cX8_send 148 = .ok (.iadd, 1) := by decide +kernel
theorem dX8_send_149 : decode cX8_send 149 = .ok (.iaload, 1) := by decide +kernel
theorem dX8_send_150 : decode cX8_send 150 = .ok (.iastore, 1) := by decide +kernel
theorem dX8_send_151 : decode cX8_send 151 = .ok (.iinc 8 1, 3) := by decide +kernel
theorem dX8_send_154 : decode cX8_send 154 = .ok (.goto (-34), 3) := by decide +kernel
theorem dX8_send_157 : decode cX8_send 157 = .ok (.aload_n 0, 1) := by decide +kernel
theorem dX8_send_158 : decode cX8_send 158 = .ok (.iload 7, 2) := by decide +kernel
theorem dX8_send_160 : decode cX8_send 160 = .ok (.iload_n 1, 1) := by decide +kernel
theorem dX8_send_161 : decode cX8_send 161 = .ok (.invokevirtual 239, 3) := by decide +kernel
theorem dX8_send_164 : decode cX8_send 164 = .ok (.ifCond .eq 10, 3) := by decide +kernel
theorem dX8_send_167 : decode cX8_send 167 = .ok (.aload_n 0, 1) := by decide +kernel
theorem dX8_send_168 : decode cX8_send 168 = .ok (.iload_n 1, 1) := by decide +kernel
theorem dX8_send_169 : decode cX8_send 169 = .ok (.iconst 0, 1) := by decide +kernel
theorem dX8_send_170 : decode cX8_send 170 = .ok (.invokevirtual 180, 3) := by decide +kernel
theorem dX8_send_173 : decode cX8_send 173 = .ok (.ireturn, 1) := by decide +kernel
theorem dX8_send_174 : decode cX8_send 174 = .ok (.iload 6, 2) := by decide +kernel
theorem dX8_send_176 : decode cX8_send 176 = .ok (.ifCond .eq 11, 3) := by decide +kernel
theorem dX8_send_179 : decode cX8_send 179 = .ok (.aload_n 0, 1) := by decide +kernel
theorem dX8_send_180 : decode cX8_send 180 = .ok (.iload_n 1, 1) := by decide +kernel
theorem dX8_send_181 : decode cX8_send 181 = .ok (.bipush (-11), 2) := by decide +kernel
theorem dX8_send_183 : decode cX8_send 183 = .ok (.invokevirtual 180, 3) := by decide +kernel
theorem dX8_send_186 : decode cX8_send 186 = .ok (.ireturn, 1) := by decide +kernel
theorem dX8_send_187 : decode cX8_send 187 = .ok (.aload_n 0, 1) := by decide +kernel
theorem dX8_send_188 : decode cX8_send 188 = .ok (.iload_n 1, 1) := by decide +kernel
theorem dX8_send_189 : decode cX8_send 189 = .ok (.iconst 1, 1) := by decide +kernel
theorem dX8_send_190 : decode cX8_send 190 = .ok (.iload 7, 2) := by decide +kernel
theorem dX8_send_192 : decode cX8_send 192 = .ok (.invokevirtual 244, 3) := by decide +kernel
theorem dX8_send_195 : decode cX8_send 195 = .ok (.aload_n 0, 1) := by decide +kernel
theorem dX8_send_196 : decode cX8_send 196 = .ok (.iload_n 1, 1) := by decide +kernel
theorem dX8_send_197 : decode cX8_send 197 = .ok (.bipush (-10), 2) := by decide +kernel
theorem dX8_send_199 : decode cX8_send 199 = .ok (.invokevirtual 180, 3) := by decide +kernel
theorem dX8_send_202 : decode cX8_send 202 = .ok (.ireturn, 1) := by decide +kernel
theorem dX8_found_0 : decode cX8_found 0 = .ok (.iconst (-1), 1) := by decide +kernel
theorem dX8_found_1 : decode cX8_found 1 = .ok (.istore 5, 2) := by decide +kernel
theorem dX8_found_3 : decode cX8_found 3 = .ok (.bipush 40, 2) := by decide +kernel
theorem dX8_found_5 : decode cX8_found 5 = .ok (.iload_n 1, 1) := by decide +kernel
theorem dX8_found_6 : decode cX8_found 6 = .ok (.imul, 1) := by decide +kernel
theorem dX8_found_7 : decode cX8_found 7 = .ok (.aload_n 0, 1) := by decide +kernel
theorem dX8_found_8 : decode cX8_found 8 = .ok (.getfield 108, 3) := by decide +kernel
theorem dX8_found_11 : decode cX8_found 11 = .ok (.iload_n 1, 1) := by decide +kernel
theorem dX8_found_12 : decode cX8_found 12 = .ok (.iaload, 1) := by decide +kernel
theorem dX8_found_13 : decode cX8_found 13 = .ok (.iadd, 1) := by decide +kernel
theorem dX8_found_14 : decode cX8_found 14 = .ok (.iconst 1, 1) := by decide +kernel
theorem dX8_found_15 : decode cX8_found 15 = .ok (.isub, 1) := by decide +kernel
theorem dX8_found_16 : decode cX8_found 16 = .ok (.istore 6, 2) := by decide +kernel
theorem dX8_found_18 : decode cX8_found 18 = .ok (.iload 6, 2) := by decide +kernel
theorem dX8_found_20 : decode cX8_found 20 = .ok (.bipush 40, 2) := by decide +kernel
theorem dX8_found_22 : decode cX8_found 22 = .ok (.iload_n 1, 1) := by decide +kernel
theorem dX8_found_23 : decode cX8_found 23 = .ok (.imul, 1) := by decide +kernel
theorem dX8_found_24 : decode cX8_found 24 = .ok (.if_icmp .lt 67, 3) := by decide +kernel
theorem dX8_found_27 : decode cX8_found 27 = .ok (.aload_n 0, 1) := by decide +kernel
theorem dX8_found_28 : decode cX8_found 28 = .ok (.getfield 111, 3) := by decide +kernel
theorem dX8_found_31 : decode cX8_found 31 = .ok (.iload 6, 2) := by decide +kernel
theorem dX8_found_33 : decode cX8_found 33 = .ok (.laload, 1) := by decide +kernel
theorem dX8_found_34 : decode cX8_found 34 = .ok (.lload_n 2, 1) := by decide +kernel
theorem dX8_found_35 : decode cX8_found 35 = .ok (.iload 4, 2) := by decide +kernel
theorem dX8_found_37 : decode cX8_found 37 = .ok (.invokestatic 228, 3) := by decide +kernel
theorem dX8_found_40 : decode cX8_found 40 = .ok (.istore 7, 2) := by decide +kernel
theorem dX8_found_42 : decode cX8_found 42 = .ok (.iload 7, 2) := by decide +kernel
theorem dX8_found_44 : decode cX8_found 44 = .ok (.ifCond .eq 37, 3) := by decide +kernel
theorem dX8_found_47 : decode cX8_found 47 = .ok (.iload 5, 2) := by decide +kernel
theorem dX8_found_49 : decode cX8_found 49 = .ok (.ifCond .lt 27, 3) := by decide +kernel
theorem dX8_found_52 : decode cX8_found 52 = .ok (.lload_n 2, 1) := by decide +kernel
theorem dX8_found_53 : decode cX8_found 53 = .ok (.lconst 0, 1) := by decide +kernel
theorem dX8_found_54 : decode cX8_found 54 = .ok (.lcmp, 1) := by decide +kernel
theorem dX8_found_55 : decode cX8_found 55 = .ok (.ifCond .ge 21, 3) := by decide +kernel
theorem dX8_found_58 : decode cX8_found 58 = .ok (.aload_n 0, 1) := by decide +kernel
theorem dX8_found_59 : decode cX8_found 59 = .ok (.getfield 111, 3) := by decide +kernel
theorem dX8_found_62 : decode cX8_found 62 = .ok (.iload 6, 2) := by decide +kernel
theorem dX8_found_64 : decode cX8_found 64 = .ok (.laload, 1) := by decide +kernel
theorem dX8_found_65 : decode cX8_found 65 = .ok (.aload_n 0, 1) := by decide +kernel
theorem dX8_found_66 : decode cX8_found 66 = .ok (.getfield 111, 3) := by decide +kernel
theorem dX8_found_69 : decode cX8_found 69 = .ok (.iload 5, 2) := by decide +kernel
theorem dX8_found_71 : decode cX8_found 71 = .ok (.laload, 1) := by decide +kernel
theorem dX8_found_72 : decode cX8_found 72 = .ok (.lcmp, 1) := by decide +kernel
theorem dX8_found_73 : decode cX8_found 73 = .ok (.ifCond .gt 8, 3) := by decide +kernel
theorem dX8_found_76 : decode cX8_found 76 = .ok (.iload 6, 2) := by decide +kernel
theorem dX8_found_78 : decode cX8_found 78 = .ok (.goto 5, 3) := by decide +kernel
theorem dX8_found_81 : decode cX8_found 81 = .ok (.iload 5, 2) := by decide +kernel
theorem dX8_found_83 : decode cX8_found 83 = .ok (.istore 5, 2) := by decide +kernel
theorem dX8_found_85 : decode cX8_found 85 = .ok (.iinc 6 (-1), 3) := by decide +kernel
theorem dX8_found_88 : decode cX8_found 88 = .ok (.goto (-70), 3) := by decide +kernel
theorem dX8_found_91 : decode cX8_found 91 = .ok (.iload 5, 2) := by decide +kernel
theorem dX8_found_93 : decode cX8_found 93 = .ok (.ireturn, 1) := by decide +kernel
theorem dX8_take_0 : decode cX8_take 0 = .ok (.aload_n 0, 1) := by decide +kernel
theorem dX8_take_1 : decode cX8_take 1 = .ok (.iload_n 1, 1) := by decide +kernel
theorem dX8_take_2 : decode cX8_take 2 = .ok (.invokevirtual 152, 3) := by decide +kernel
theorem dX8_take_5 : decode cX8_take 5 = .ok (.ifCond .ne 6, 3) := by decide +kernel
theorem dX8_take_8 : decode cX8_take 8 = .ok (.bipush (-2), 2) := by decide +kernel
theorem dX8_take_10 : decode cX8_take 10 = .ok (.ireturn, 1) := by decide +kernel
theorem dX8_take_11 : decode cX8_take 11 = .ok (.aload_n 0, 1) := by decide +kernel
theorem dX8_take_12 : decode cX8_take 12 = .ok (.iload_n 1, 1) := by decide +kernel
theorem dX8_take_13 : decode cX8_take 13 = .ok (.invokevirtual 173, 3) := by decide +kernel
theorem dX8_take_16 : decode cX8_take 16 = .ok (.ifCond .ne 6, 3) := by decide +kernel
theorem dX8_take_19 : decode cX8_take 19 = .ok (.bipush (-3), 2) := by decide +kernel
theorem dX8_take_21 : decode cX8_take 21 = .ok (.ireturn, 1) := by decide +kernel
theorem dX8_take_22 : decode cX8_take 22 = .ok (.iload_n 3, 1) := by decide +kernel
theorem dX8_take_23 : decode cX8_take 23 = .ok (.i2l, 1) := by decide +kernel
theorem dX8_take_24 : decode cX8_take 24 = .ok (.lconst 0, 1) := by decide +kernel
theorem dX8_take_25 : decode cX8_take 25 = .ok (.ldc2_w 242, 3) := by decide +kernel
theorem dX8_take_28 : decode cX8_take 28 = .ok (.invokestatic 142, 3) := by decide +kernel
theorem dX8_take_31 : decode cX8_take 31 = .ok (.ifCond .eq 16, 3) := by decide +kernel
theorem dX8_take_34 : decode cX8_take 34 = .ok (.iload 6, 2) := by decide +kernel
theorem dX8_take_36 : decode cX8_take 36 = .ok (.i2l, 1) := by decide +kernel
theorem dX8_take_37 : decode cX8_take 37 = .ok (.lconst 0, 1) := by decide +kernel
theorem dX8_take_38 : decode cX8_take 38 = .ok (.ldc2_w 248, 3) := by decide +kernel
theorem dX8_take_41 : decode cX8_take 41 = .ok (.invokestatic 142, 3) := by decide +kernel
theorem dX8_take_44 : decode cX8_take 44 = .ok (.ifCond .ne 11, 3) := by decide +kernel
theorem dX8_take_47 : decode cX8_take 47 = .ok (.aload_n 0, 1) := by decide +kernel
theorem dX8_take_48 : decode cX8_take 48 = .ok (.iload_n 1, 1) := by decide +kernel
theorem dX8_take_49 : decode cX8_take 49 = .ok (.bipush (-4), 2) := by decide +kernel
theorem dX8_take_51 : decode cX8_take 51 = .ok (.invokevirtual 180, 3) := by decide +kernel
theorem dX8_take_54 : decode cX8_take 54 = .ok (.ireturn, 1) := by decide +kernel
theorem dX8_take_55 : decode cX8_take 55 = .ok (.aload_n 0, 1) := by decide +kernel
theorem dX8_take_56 : decode cX8_take 56 = .ok (.iload_n 2, 1) := by decide +kernel
theorem dX8_take_57 : decode cX8_take 57 = .ok (.iconst 0, 1) := by decide +kernel
theorem dX8_take_58 : decode cX8_take 58 = .ok (.invokevirtual 206, 3) := by decide +kernel
theorem dX8_take_61 : decode cX8_take 61 = .ok (.istore 7, 2) := by decide +kernel
theorem dX8_take_63 : decode cX8_take 63 = .ok (.iload 7, 2) := by decide +kernel
theorem dX8_take_65 : decode cX8_take 65 = .ok (.iconst (-1), 1) := by decide +kernel
theorem dX8_take_66 : decode cX8_take 66 = .ok (.if_icmp .ne 11, 3) := by decide +kernel
theorem dX8_take_69 : decode cX8_take 69 = .ok (.aload_n 0, 1) := by decide +kernel
theorem dX8_take_70 : decode cX8_take 70 = .ok (.iload_n 1, 1) := by decide +kernel
theorem dX8_take_71 : decode cX8_take 71 = .ok (.bipush (-5), 2) := by decide +kernel
theorem dX8_take_73 : decode cX8_take 73 = .ok (.invokevirtual 180, 3) := by decide +kernel
theorem dX8_take_76 : decode cX8_take 76 = .ok (.ireturn, 1) := by decide +kernel
theorem dX8_take_77 : decode cX8_take 77 = .ok (.aload_n 0, 1) := by decide +kernel
theorem dX8_take_78 : decode cX8_take 78 = .ok (.iload_n 1, 1) := by decide +kernel
theorem dX8_take_79 : decode cX8_take 79 = .ok (.iload 7, 2) := by decide +kernel
theorem dX8_take_81 : decode cX8_take 81 = .ok (.iconst 4, 1) := by decide +kernel
theorem dX8_take_82 : decode cX8_take 82 = .ok (.invokevirtual 190, 3) := by decide +kernel
theorem dX8_take_85 : decode cX8_take 85 = .ok (.ifCond .ne 11, 3) := by decide +kernel
theorem dX8_take_88 : decode cX8_take 88 = .ok (.aload_n 0, 1) := by decide +kernel
theorem dX8_take_89 : decode cX8_take 89 = .ok (.iload_n 1, 1) := by decide +kernel
theorem dX8_take_90 : decode cX8_take 90 = .ok (.bipush (-6), 2) := by decide +kernel
theorem dX8_take_92 : decode cX8_take 92 = .ok (.invokevirtual 180, 3) := by decide +kernel
theorem dX8_take_95 : decode cX8_take 95 = .ok (.ireturn, 1) := by decide +kernel
theorem dX8_take_96 : decode cX8_take 96 = .ok (.aload_n 0, 1) := by decide +kernel
theorem dX8_take_97 : decode cX8_take 97 = .ok (.iload 7, 2) := by decide +kernel
theorem dX8_take_99 : decode cX8_take 99 = .ok (.lload 4, 2) := by decide +kernel
theorem dX8_take_101 : decode cX8_take 101 = .ok (.iload 6, 2) := by decide +kernel
theorem dX8_take_103 : decode cX8_take 103 = .ok (.invokevirtual 250, 3) := by decide +kernel
theorem dX8_take_106 : decode cX8_take 106 = .ok (.istore 8, 2) := by decide +kernel
theorem dX8_take_108 : decode cX8_take 108 = .ok (.iload 8, 2) := by decide +kernel
theorem dX8_take_110 : decode cX8_take 110 = .ok (.iconst (-1), 1) := by decide +kernel
theorem dX8_take_111 : decode cX8_take 111 = .ok (.if_icmp .ne 58, 3) := by decide +kernel
theorem dX8_take_114 : decode cX8_take 114 = .ok (.iload 6, 2) := by decide +kernel
theorem dX8_take_116 : decode cX8_take 116 = .ok (.iconst 1, 1) := by decide +kernel
theorem dX8_take_117 : decode cX8_take 117 = .ok (.iand, 1) := by decide +kernel
theorem dX8_take_118 : decode cX8_take 118 = .ok (.iconst 1, 1) := by decide +kernel
theorem dX8_take_119 : decode cX8_take 119 = .ok (.if_icmp .ne 11, 3) := by decide +kernel
theorem dX8_take_122 : decode cX8_take 122 = .ok (.aload_n 0, 1) := by decide +kernel
theorem dX8_take_123 : decode cX8_take 123 = .ok (.iload_n 1, 1) := by decide +kernel
theorem dX8_take_124 : decode cX8_take 124 = .ok (.bipush (-12), 2) := by decide +kernel
theorem dX8_take_126 : decode cX8_take 126 = .ok (.invokevirtual 180, 3) := by decide +kernel
theorem dX8_take_129 : decode cX8_take 129 = .ok (.ireturn, 1) := by decide +kernel
theorem dX8_take_130 : decode cX8_take 130 = .ok (.aload_n 0, 1) := by decide +kernel
theorem dX8_take_131 : decode cX8_take 131 = .ok (.getfield 39, 3) := by decide +kernel
theorem dX8_take_134 : decode cX8_take 134 = .ok (.iload_n 1, 1) := by decide +kernel
theorem dX8_take_135 : decode cX8_take 135 = .ok (.lload 4, 2) := by decide +kernel
theorem dX8_take_137 : decode cX8_take 137 = .ok (.lastore, 1) := by decide +kernel
theorem dX8_take_138 : decode cX8_take 138 = .ok (.aload_n 0, 1) := by decide +kernel
theorem dX8_take_139 : decode cX8_take 139 = .ok (.getfield 42, 3) := by decide +kernel
theorem dX8_take_142 : decode cX8_take 142 = .ok (.iload_n 1, 1) := by decide +kernel
theorem dX8_take_143 : decode cX8_take 143 = .ok (.iload_n 3, 1) := by decide +kernel
theorem dX8_take_144 : decode cX8_take 144 = .ok (.iastore, 1) := by decide +kernel
theorem dX8_take_145 : decode cX8_take 145 = .ok (.aload_n 0, 1) := by decide +kernel
theorem dX8_take_146 : decode cX8_take 146 = .ok (.getfield 45, 3) := by decide +kernel
theorem dX8_take_149 : decode cX8_take 149 = .ok (.iload_n 1, 1) := by decide +kernel
theorem dX8_take_150 : decode cX8_take 150 = .ok (.iload 6, 2) := by decide +kernel
theorem dX8_take_152 : decode cX8_take 152 = .ok (.iastore, 1) := by decide +kernel
theorem dX8_take_153 : decode cX8_take 153 = .ok (.aload_n 0, 1) := by decide +kernel
theorem dX8_take_154 : decode cX8_take 154 = .ok (.iload_n 1, 1) := by decide +kernel
theorem dX8_take_155 : decode cX8_take 155 = .ok (.iconst 2, 1) := by decide +kernel
theorem dX8_take_156 : decode cX8_take 156 = .ok (.iload 7, 2) := by decide +kernel
theorem dX8_take_158 : decode cX8_take 158 = .ok (.invokevirtual 244, 3) := by decide +kernel
theorem dX8_take_161 : decode cX8_take 161 = .ok (.aload_n 0, 1) := by decide +kernel
theorem dX8_take_162 : decode cX8_take 162 = .ok (.iload_n 1, 1) := by decide +kernel
theorem dX8_take_163 : decode cX8_take 163 = .ok (.bipush (-10), 2) := by decide +kernel
theorem dX8_take_165 : decode cX8_take 165 = .ok (.invokevirtual 180, 3) := by decide +kernel
theorem dX8_take_168 : decode cX8_take 168 = .ok (.ireturn, 1) := by decide +kernel
theorem dX8_take_169 : decode cX8_take 169 = .ok (.aload_n 0, 1) := by decide +kernel
theorem dX8_take_170 : decode cX8_take 170 = .ok (.getfield 114, 3) := by decide +kernel
theorem dX8_take_173 : decode cX8_take 173 = .ok (.iload 8, 2) := by decide +kernel
theorem dX8_take_175 : decode cX8_take 175 = .ok (.iaload, 1) := by decide +kernel
theorem dX8_take_176 : decode cX8_take 176 = .ok (.iload_n 3, 1) := by decide +kernel
theorem dX8_take_177 : decode cX8_take 177 = .ok (.if_icmp .le 18, 3) := by decide +kernel
theorem dX8_take_180 : decode cX8_take 180 = .ok (.iload 6, 2) := by decide +kernel
theorem dX8_take_182 : decode cX8_take 182 = .ok (.iconst 2, 1) := by decide +kernel
theorem dX8_take_183 : decode cX8_take 183 = .ok (.iand, 1) := by decide +kernel
theorem dX8_take_184 : decode cX8_take 184 = .ok (.ifCond .ne 11, 3) := by decide +kernel
theorem dX8_take_187 : decode cX8_take 187 = .ok (.aload_n 0, 1) := by decide +kernel
theorem dX8_take_188 : decode cX8_take 188 = .ok (.iload_n 1, 1) := by decide +kernel
theorem dX8_take_189 : decode cX8_take 189 = .ok (.bipush (-13), 2) := by decide +kernel
theorem dX8_take_191 : decode cX8_take 191 = .ok (.invokevirtual 180, 3) := by decide +kernel
theorem dX8_take_194 : decode cX8_take 194 = .ok (.ireturn, 1) := by decide +kernel
theorem dX8_take_195 : decode cX8_take 195 = .ok (.aload_n 0, 1) := by decide +kernel
theorem dX8_take_196 : decode cX8_take 196 = .ok (.iload_n 1, 1) := by decide +kernel
theorem dX8_take_197 : decode cX8_take 197 = .ok (.aload_n 0, 1) := by decide +kernel
theorem dX8_take_198 : decode cX8_take 198 = .ok (.getfield 111, 3) := by decide +kernel
theorem dX8_take_201 : decode cX8_take 201 = .ok (.iload 8, 2) := by decide +kernel
theorem dX8_take_203 : decode cX8_take 203 = .ok (.laload, 1) := by decide +kernel
theorem dX8_take_204 : decode cX8_take 204 = .ok (.aload_n 0, 1) := by decide +kernel
theorem dX8_take_205 : decode cX8_take 205 = .ok (.getfield 114, 3) := by decide +kernel
theorem dX8_take_208 : decode cX8_take 208 = .ok (.iload 8, 2) := by decide +kernel
theorem dX8_take_210 : decode cX8_take 210 = .ok (.iaload, 1) := by decide +kernel
theorem dX8_take_211 : decode cX8_take 211 = .ok (.aload_n 0, 1) := by decide +kernel
theorem dX8_take_212 : decode cX8_take 212 = .ok (.getfield 117, 3) := by decide +kernel
theorem dX8_take_215 : decode cX8_take 215 = .ok (.bipush 64, 2) := by decide +kernel
theorem dX8_take_217 : decode cX8_take 217 = .ok (.iload 8, 2) := by decide +kernel
theorem dX8_take_219 : decode cX8_take 219 = .ok (.imul, 1) := by decide +kernel
theorem dX8_take_220 : decode cX8_take 220 = .ok (.iload_n 3, 1) := by decide +kernel
theorem dX8_take_221 : decode cX8_take 221 = .ok (.invokevirtual 232, 3) := by decide +kernel
theorem dX8_take_224 : decode cX8_take 224 = .ok (.aload_n 0, 1) := by decide +kernel
theorem dX8_take_225 : decode cX8_take 225 = .ok (.getfield 20, 3) := by decide +kernel
theorem dX8_take_228 : decode cX8_take 228 = .ok (.iload_n 1, 1) := by decide +kernel
theorem dX8_take_229 : decode cX8_take 229 = .ok (.iaload, 1) := by decide +kernel
theorem dX8_take_230 : decode cX8_take 230 = .ok (.istore 9, 2) := by decide +kernel
theorem dX8_take_232 : decode cX8_take 232 = .ok (.aload_n 0, 1) := by decide +kernel
theorem dX8_take_233 : decode cX8_take 233 = .ok (.getfield 102, 3) := by decide +kernel
theorem dX8_take_236 : decode cX8_take 236 = .ok (.iload 7, 2) := by decide +kernel
theorem dX8_take_238 : decode cX8_take 238 = .ok (.dup2, 1) := by decide +kernel
theorem dX8_take_239 : decode cX8_take 239 = .ok (.iaload, 1) := by decide +kernel
theorem dX8_take_240 : decode cX8_take 240 = .ok (.aload_n 0, 1) := by decide +kernel
theorem dX8_take_241 : decode cX8_take 241 = .ok (.getfield 114, 3) := by decide +kernel
theorem dX8_take_244 : decode cX8_take 244 = .ok (.iload 8, 2) := by decide +kernel
theorem dX8_take_246 : decode cX8_take 246 = .ok (.iaload, 1) := by decide +kernel
theorem dX8_take_247 : decode cX8_take 247 = .ok (.isub, 1) := by decide +kernel
theorem dX8_take_248 : decode cX8_take 248 = .ok (.iastore, 1) := by decide +kernel
theorem dX8_take_249 : decode cX8_take 249 = .ok (.aload_n 0, 1) := by decide +kernel
theorem dX8_take_250 : decode cX8_take 250 = .ok (.getfield 108, 3) := by decide +kernel
theorem dX8_take_253 : decode cX8_take 253 = .ok (.iload 7, 2) := by decide +kernel
theorem dX8_take_255 : decode cX8_take 255 = .ok (.dup2, 1) := by decide +kernel
theorem dX8_take_256 : decode cX8_take 256 = .ok (.iaload, 1) := by decide +kernel
theorem dX8_take_257 : decode cX8_take 257 = .ok (.iconst 1, 1) := by decide +kernel
theorem dX8_take_258 : decode cX8_take 258 = .ok (.isub, 1) := by decide +kernel
theorem dX8_take_259 : decode cX8_take 259 = .ok (.iastore, 1) := by decide +kernel
theorem dX8_take_260 : decode cX8_take 260 = .ok (.iload 8, 2) := by decide +kernel
theorem dX8_take_262 : decode cX8_take 262 = .ok (.istore 10, 2) := by decide +kernel
theorem dX8_take_264 : decode cX8_take 264 = .ok (.iload 10, 2) := by decide +kernel
theorem dX8_take_266 : decode cX8_take 266 = .ok (.bipush 40, 2) := by decide +kernel
theorem dX8_take_268 : decode cX8_take 268 = .ok (.iload 7, 2) := by decide +kernel
theorem dX8_take_270 : decode cX8_take 270 = .ok (.imul, 1) := by decide +kernel
theorem dX8_take_271 : decode cX8_take 271 = .ok (.aload_n 0, 1) := by decide +kernel
theorem dX8_take_272 : decode cX8_take 272 = .ok (.getfield 108, 3) := by decide +kernel
theorem dX8_take_275 : decode cX8_take 275 = .ok (.iload 7, 2) := by decide +kernel
theorem dX8_take_277 : decode cX8_take 277 = .ok (.iaload, 1) := by decide +kernel
theorem dX8_take_278 : decode cX8_take 278 = .ok (.iadd, 1) := by decide +kernel
theorem dX8_take_279 : decode cX8_take 279 = .ok (.if_icmp .ge 86, 3) := by decide +kernel
theorem dX8_take_282 : decode cX8_take 282 = .ok (.aload_n 0, 1) := by decide +kernel
theorem dX8_take_283 : decode cX8_take 283 = .ok (.getfield 111, 3) := by decide +kernel
theorem dX8_take_286 : decode cX8_take 286 = .ok (.iload 10, 2) := by decide +kernel
theorem dX8_take_288 : decode cX8_take 288 = .ok (.aload_n 0, 1) := by decide +kernel
theorem dX8_take_289 : decode cX8_take 289 = .ok (.getfield 111, 3) := by decide +kernel
theorem dX8_take_292 : decode cX8_take 292 = .ok (.iload 10, 2) := by decide +kernel
theorem dX8_take_294 : decode cX8_take 294 = .ok (.iconst 1, 1) := by decide +kernel
theorem dX8_take_295 : decode cX8_take 295 = .ok (.iadd, 1) := by decide +kernel
theorem dX8_take_296 : decode cX8_take 296 = .ok (.laload, 1) := by decide +kernel
theorem dX8_take_297 : decode cX8_take 297 = .ok (.lastore, 1) := by decide +kernel
theorem dX8_take_298 : decode cX8_take 298 = .ok (.aload_n 0, 1) := by decide +kernel
theorem dX8_take_299 : decode cX8_take 299 = .ok (.getfield 114, 3) := by decide +kernel
theorem dX8_take_302 : decode cX8_take 302 = .ok (.iload 10, 2) := by decide +kernel
theorem dX8_take_304 : decode cX8_take 304 = .ok (.aload_n 0, 1) := by decide +kernel
theorem dX8_take_305 : decode cX8_take 305 = .ok (.getfield 114, 3) := by decide +kernel
theorem dX8_take_308 : decode cX8_take 308 = .ok (.iload 10, 2) := by decide +kernel
theorem dX8_take_310 : decode cX8_take 310 = .ok (.iconst 1, 1) := by decide +kernel
theorem dX8_take_311 : decode cX8_take 311 = .ok (.iadd, 1) := by decide +kernel
theorem dX8_take_312 : decode cX8_take 312 = .ok (.iaload, 1) := by decide +kernel
theorem dX8_take_313 : decode cX8_take 313 = .ok (.iastore, 1) := by decide +kernel
theorem dX8_take_314 : decode cX8_take 314 = .ok (.iconst 0, 1) := by decide +kernel
theorem dX8_take_315 : decode cX8_take 315 = .ok (.istore 11, 2) := by decide +kernel
theorem dX8_take_317 : decode cX8_take 317 = .ok (.iload 11, 2) := by decide +kernel
theorem dX8_take_319 : decode cX8_take 319 = .ok (.bipush 64, 2) := by decide +kernel
theorem dX8_take_321 : decode cX8_take 321 = .ok (.if_icmp .ge 38, 3) := by decide +kernel
theorem dX8_take_324 : decode cX8_take 324 = .ok (.aload_n 0, 1) := by decide +kernel
theorem dX8_take_325 : decode cX8_take 325 = .ok (.getfield 117, 3) := by decide +kernel
theorem dX8_take_328 : decode cX8_take 328 = .ok (.bipush 64, 2) := by decide +kernel
theorem dX8_take_330 : decode cX8_take 330 = .ok (.iload 10, 2) := by decide +kernel
theorem dX8_take_332 : decode cX8_take 332 = .ok (.imul, 1) := by decide +kernel
theorem dX8_take_333 : decode cX8_take 333 = .ok (.iload 11, 2) := by decide +kernel
theorem dX8_take_335 : decode cX8_take 335 = .ok (.iadd, 1) := by decide +kernel
theorem dX8_take_336 : decode cX8_take 336 = .ok (.aload_n 0, 1) := by decide +kernel
theorem dX8_take_337 : decode cX8_take 337 = .ok (.getfield 117, 3) := by decide +kernel
theorem dX8_take_340 : decode cX8_take 340 = .ok (.bipush 64, 2) := by decide +kernel
theorem dX8_take_342 : decode cX8_take 342 = .ok (.iload 10, 2) := by decide +kernel
theorem dX8_take_344 : decode cX8_take 344 = .ok (.imul, 1) := by decide +kernel
theorem dX8_take_345 : decode cX8_take 345 = .ok (.bipush 64, 2) := by decide +kernel
theorem dX8_take_347 : decode cX8_take 347 = .ok (.iadd, 1) := by decide +kernel
theorem dX8_take_348 : decode cX8_take 348 = .ok (.iload 11, 2) := by decide +kernel
theorem dX8_take_350 : decode cX8_take 350 = .ok (.iadd, 1) := by decide +kernel
theorem dX8_take_351 : decode cX8_take 351 = .ok (.iaload, 1) := by decide +kernel
theorem dX8_take_352 : decode cX8_take 352 = .ok (.iastore, 1) := by decide +kernel
theorem dX8_take_353 : decode cX8_take 353 = .ok (.iinc 11 1, 3) := by decide +kernel
theorem dX8_take_356 : decode cX8_take 356 = .ok (.goto (-39), 3) := by decide +kernel
theorem dX8_take_359 : decode cX8_take 359 = .ok (.iinc 10 1, 3) := by decide +kernel
theorem dX8_take_362 : decode cX8_take 362 = .ok (.goto (-98), 3) := by decide +kernel
theorem dX8_take_365 : decode cX8_take 365 = .ok (.aload_n 0, 1) := by decide +kernel
theorem dX8_take_366 : decode cX8_take 366 = .ok (.invokevirtual 213, 3) := by decide +kernel
theorem dX8_take_369 : decode cX8_take 369 = .ok (.iload 9, 2) := by decide +kernel
theorem dX8_take_371 : decode cX8_take 371 = .ok (.ireturn, 1) := by decide +kernel
theorem dX8_step_0 : decode cX8_step 0 = .ok (.aload_n 0, 1) := by decide +kernel
theorem dX8_step_1 : decode cX8_step 1 = .ok (.iload_n 1, 1) := by decide +kernel
theorem dX8_step_2 : decode cX8_step 2 = .ok (.invokevirtual 152, 3) := by decide +kernel
theorem dX8_step_5 : decode cX8_step 5 = .ok (.ifCond .ne 6, 3) := by decide +kernel
theorem dX8_step_8 : decode cX8_step 8 = .ok (.bipush (-2), 2) := by decide +kernel
theorem dX8_step_10 : decode cX8_step 10 = .ok (.ireturn, 1) := by decide +kernel
theorem dX8_step_11 : decode cX8_step 11 = .ok (.aload_n 0, 1) := by decide +kernel
theorem dX8_step_12 : decode cX8_step 12 = .ok (.iload_n 1, 1) := by decide +kernel
theorem dX8_step_13 : decode cX8_step 13 = .ok (.invokevirtual 173, 3) := by decide +kernel
theorem dX8_step_16 : decode cX8_step 16 = .ok (.ifCond .ne 6, 3) := by decide +kernel
theorem dX8_step_19 : decode cX8_step 19 = .ok (.bipush (-3), 2) := by decide +kernel
theorem dX8_step_21 : decode cX8_step 21 = .ok (.ireturn, 1) := by decide +kernel
theorem dX8_step_22 : decode cX8_step 22 = .ok (.iload_n 2, 1) := by decide +kernel
theorem dX8_step_23 : decode cX8_step 23 = .ok (.i2l, 1) := by decide +kernel
theorem dX8_step_24 : decode cX8_step 24 = .ok (.lconst 0, 1) := by decide +kernel
theorem dX8_step_25 : decode cX8_step 25 = .ok (.ldc2_w 248, 3) := by decide +kernel
theorem dX8_step_28 : decode cX8_step 28 = .ok (.invokestatic 142, 3) := by decide +kernel
theorem dX8_step_31 : decode cX8_step 31 = .ok (.ifCond .eq 30, 3) := by decide +kernel
theorem dX8_step_34 : decode cX8_step 34 = .ok (.iload_n 3, 1) := by decide +kernel
theorem dX8_step_35 : decode cX8_step 35 = .ok (.i2l, 1) := by decide +kernel
theorem dX8_step_36 : decode cX8_step 36 = .ok (.ldc2_w 254, 3) := by decide +kernel
theorem dX8_step_39 : decode cX8_step 39 = .ok (.ldc2_w 256, 3) := by decide +kernel
theorem dX8_step_42 : decode cX8_step 42 = .ok (.invokestatic 142, 3) := by decide +kernel
theorem dX8_step_45 : decode cX8_step 45 = .ok (.ifCond .eq 16, 3) := by decide +kernel
theorem dX8_step_48 : decode cX8_step 48 = .ok (.iload 4, 2) := by decide +kernel
theorem dX8_step_50 : decode cX8_step 50 = .ok (.i2l, 1) := by decide +kernel
theorem dX8_step_51 : decode cX8_step 51 = .ok (.lconst 0, 1) := by decide +kernel
theorem dX8_step_52 : decode cX8_step 52 = .ok (.ldc2_w 258, 3) := by decide +kernel
theorem dX8_step_55 : decode cX8_step 55 = .ok (.invokestatic 142, 3) := by decide +kernel
theorem dX8_step_58 : decode cX8_step 58 = .ok (.ifCond .ne 6, 3) := by decide +kernel
theorem dX8_step_61 : decode cX8_step 61 = .ok (.bipush (-4), 2) := by decide +kernel
theorem dX8_step_63 : decode cX8_step 63 = .ok (.ireturn, 1) := by decide +kernel
theorem dX8_step_64 : decode cX8_step 64 = .ok (.aload_n 0, 1) := by decide +kernel
theorem dX8_step_65 : decode cX8_step 65 = .ok (.getfield 54, 3) := by decide +kernel
theorem dX8_step_68 : decode cX8_step 68 = .ok (.iload_n 1, 1) := by decide +kernel
theorem dX8_step_69 : decode cX8_step 69 = .ok (.iaload, 1) := by decide +kernel
theorem dX8_step_70 : decode cX8_step 70 = .ok (.bipush 8, 2) := by decide +kernel
theorem dX8_step_72 : decode cX8_step 72 = .ok (.if_icmp .ne 6, 3) := by decide +kernel
theorem dX8_step_75 : decode cX8_step 75 = .ok (.bipush (-9), 2) := by decide +kernel
theorem dX8_step_77 : decode cX8_step 77 = .ok (.ireturn, 1) := by decide +kernel
theorem dX8_step_78 : decode cX8_step 78 = .ok (.bipush 8, 2) := by decide +kernel
theorem dX8_step_80 : decode cX8_step 80 = .ok (.iload_n 1, 1) := by decide +kernel
theorem dX8_step_81 : decode cX8_step 81 = .ok (.imul, 1) := by decide +kernel
theorem dX8_step_82 : decode cX8_step 82 = .ok (.aload_n 0, 1) := by decide +kernel
theorem dX8_step_83 : decode cX8_step 83 = .ok (.getfield 54, 3) := by decide +kernel
theorem dX8_step_86 : decode cX8_step 86 = .ok (.iload_n 1, 1) := by decide +kernel
theorem dX8_step_87 : decode cX8_step 87 = .ok (.iaload, 1) := by decide +kernel
theorem dX8_step_88 : decode cX8_step 88 = .ok (.iadd, 1) := by decide +kernel
theorem dX8_step_89 : decode cX8_step 89 = .ok (.istore 5, 2) := by decide +kernel
theorem dX8_step_91 : decode cX8_step 91 = .ok (.aload_n 0, 1) := by decide +kernel
theorem dX8_step_92 : decode cX8_step 92 = .ok (.getfield 57, 3) := by decide +kernel
theorem dX8_step_95 : decode cX8_step 95 = .ok (.iload 5, 2) := by decide +kernel
theorem dX8_step_97 : decode cX8_step 97 = .ok (.iload_n 2, 1) := by decide +kernel
theorem dX8_step_98 : decode cX8_step 98 = .ok (.iastore, 1) := by decide +kernel
theorem dX8_step_99 : decode cX8_step 99 = .ok (.aload_n 0, 1) := by decide +kernel
theorem dX8_step_100 : decode cX8_step 100 = .ok (.getfield 60, 3) := by decide +kernel
theorem dX8_step_103 : decode cX8_step 103 = .ok (.iload 5, 2) := by decide +kernel
theorem dX8_step_105 : decode cX8_step 105 = .ok (.iload_n 3, 1) := by decide +kernel
theorem dX8_step_106 : decode cX8_step 106 = .ok (.iastore, 1) := by decide +kernel
theorem dX8_step_107 : decode cX8_step 107 = .ok (.aload_n 0, 1) := by decide +kernel
theorem dX8_step_108 : decode cX8_step 108 = .ok (.getfield 63, 3) := by decide +kernel
theorem dX8_step_111 : decode cX8_step 111 = .ok (.iload 5, 2) := by decide +kernel
theorem dX8_step_113 : decode cX8_step 113 = .ok (.iload 4, 2) := by decide +kernel
theorem dX8_step_115 : decode cX8_step 115 = .ok (.iastore, 1) := by decide +kernel
theorem dX8_step_116 : decode cX8_step 116 = .ok (.aload_n 0, 1) := by decide +kernel
theorem dX8_step_117 : decode cX8_step 117 = .ok (.getfield 54, 3) := by decide +kernel
theorem dX8_step_120 : decode cX8_step 120 = .ok (.iload_n 1, 1) := by decide +kernel
theorem dX8_step_121 : decode cX8_step 121 = .ok (.dup2, 1) := by decide +kernel
theorem dX8_step_122 : decode cX8_step 122 = .ok (.iaload, 1) := by decide +kernel
theorem dX8_step_123 : decode cX8_step 123 = .ok (.iconst 1, 1) := by decide +kernel
theorem dX8_step_124 : decode cX8_step 124 = .ok (.iadd, 1) := by decide +kernel
theorem dX8_step_125 : decode cX8_step 125 = .ok (.iastore, 1) := by decide +kernel
theorem dX8_step_126 : decode cX8_step 126 = .ok (.aload_n 0, 1) := by decide +kernel
theorem dX8_step_127 : decode cX8_step 127 = .ok (.getfield 54, 3) := by decide +kernel
theorem dX8_step_130 : decode cX8_step 130 = .ok (.iload_n 1, 1) := by decide +kernel
theorem dX8_step_131 : decode cX8_step 131 = .ok (.iaload, 1) := by decide +kernel
theorem dX8_step_132 : decode cX8_step 132 = .ok (.ireturn, 1) := by decide +kernel
theorem dX8_tried_0 : decode cX8_tried 0 = .ok (.iconst 0, 1) := by decide +kernel
theorem dX8_tried_1 : decode cX8_tried 1 = .ok (.istore_n 3, 1) := by decide +kernel
theorem dX8_tried_2 : decode cX8_tried 2 = .ok (.iload_n 3, 1) := by decide +kernel
theorem dX8_tried_3 : decode cX8_tried 3 = .ok (.bipush 8, 2) := by decide +kernel
theorem dX8_tried_5 : decode cX8_tried 5 = .ok (.if_icmp .ge 48, 3) := by decide +kernel
theorem dX8_tried_8 : decode cX8_tried 8 = .ok (.aload_n 0, 1) := by decide +kernel
theorem dX8_tried_9 : decode cX8_tried 9 = .ok (.getfield 132, 3) := by decide +kernel
theorem dX8_tried_12 : decode cX8_tried 12 = .ok (.iload_n 3, 1) := by decide +kernel
theorem dX8_tried_13 : decode cX8_tried 13 = .ok (.aload_n 0, 1) := by decide +kernel
theorem dX8_tried_14 : decode cX8_tried 14 = .ok (.getfield 123, 3) := by decide +kernel
theorem dX8_tried_17 : decode cX8_tried 17 = .ok (.bipush 8, 2) := by decide +kernel
theorem dX8_tried_19 : decode cX8_tried 19 = .ok (.iload_n 2, 1) := by decide +kernel
theorem dX8_tried_20 : decode cX8_tried 20 = .ok (.imul, 1) := by decide +kernel
theorem dX8_tried_21 : decode cX8_tried 21 = .ok (.iload_n 3, 1) := by decide +kernel
theorem dX8_tried_22 : decode cX8_tried 22 = .ok (.iadd, 1) := by decide +kernel
theorem dX8_tried_23 : decode cX8_tried 23 = .ok (.iaload, 1) := by decide +kernel
theorem dX8_tried_24 : decode cX8_tried 24 = .ok (.iastore, 1) := by decide +kernel
theorem dX8_tried_25 : decode cX8_tried 25 = .ok (.aload_n 0, 1) := by decide +kernel
theorem dX8_tried_26 : decode cX8_tried 26 = .ok (.getfield 135, 3) := by decide +kernel
theorem dX8_tried_29 : decode cX8_tried 29 = .ok (.iload_n 3, 1) := by decide +kernel
theorem dX8_tried_30 : decode cX8_tried 30 = .ok (.aload_n 0, 1) := by decide +kernel
theorem dX8_tried_31 : decode cX8_tried 31 = .ok (.getfield 129, 3) := by decide +kernel
theorem dX8_tried_34 : decode cX8_tried 34 = .ok (.bipush 96, 2) := by decide +kernel
theorem dX8_tried_36 : decode cX8_tried 36 = .ok (.iload_n 1, 1) := by decide +kernel
theorem dX8_tried_37 : decode cX8_tried 37 = .ok (.imul, 1) := by decide +kernel
theorem dX8_tried_38 : decode cX8_tried 38 = .ok (.bipush 8, 2) := by decide +kernel
theorem dX8_tried_40 : decode cX8_tried 40 = .ok (.iload_n 2, 1) := by decide +kernel
theorem dX8_tried_41 : decode cX8_tried 41 = .ok (.imul, 1) := by decide +kernel
theorem dX8_tried_42 : decode cX8_tried 42 = .ok (.iadd, 1) := by decide +kernel
theorem dX8_tried_43 : decode cX8_tried 43 = .ok (.iload_n 3, 1) := by decide +kernel
theorem dX8_tried_44 : decode cX8_tried 44 = .ok (.iadd, 1) := by decide +kernel
theorem dX8_tried_45 : decode cX8_tried 45 = .ok (.iaload, 1) := by decide +kernel
theorem dX8_tried_46 : decode cX8_tried 46 = .ok (.iastore, 1) := by decide +kernel
theorem dX8_tried_47 : decode cX8_tried 47 = .ok (.iinc 3 1, 3) := by decide +kernel
theorem dX8_tried_50 : decode cX8_tried 50 = .ok (.goto (-48), 3) := by decide +kernel
theorem dX8_tried_53 : decode cX8_tried 53 = .ok (.iconst 0, 1) := by decide +kernel
theorem dX8_tried_54 : decode cX8_tried 54 = .ok (.istore_n 3, 1) := by decide +kernel
theorem dX8_tried_55 : decode cX8_tried 55 = .ok (.iload_n 3, 1) := by decide +kernel
theorem dX8_tried_56 : decode cX8_tried 56 = .ok (.aload_n 0, 1) := by decide +kernel
theorem dX8_tried_57 : decode cX8_tried 57 = .ok (.getfield 66, 3) := by decide +kernel
theorem dX8_tried_60 : decode cX8_tried 60 = .ok (.iload_n 1, 1) := by decide +kernel
theorem dX8_tried_61 : decode cX8_tried 61 = .ok (.iaload, 1) := by decide +kernel
theorem dX8_tried_62 : decode cX8_tried 62 = .ok (.if_icmp .ge 174, 3) := by decide +kernel
theorem dX8_tried_65 : decode cX8_tried 65 = .ok (.aload_n 0, 1) := by decide +kernel
theorem dX8_tried_66 : decode cX8_tried 66 = .ok (.getfield 69, 3) := by decide +kernel
theorem dX8_tried_69 : decode cX8_tried 69 = .ok (.bipush 8, 2) := by decide +kernel
theorem dX8_tried_71 : decode cX8_tried 71 = .ok (.iload_n 1, 1) := by decide +kernel
theorem dX8_tried_72 : decode cX8_tried 72 = .ok (.imul, 1) := by decide +kernel
theorem dX8_tried_73 : decode cX8_tried 73 = .ok (.iload_n 3, 1) := by decide +kernel
theorem dX8_tried_74 : decode cX8_tried 74 = .ok (.iadd, 1) := by decide +kernel
theorem dX8_tried_75 : decode cX8_tried 75 = .ok (.iaload, 1) := by decide +kernel
theorem dX8_tried_76 : decode cX8_tried 76 = .ok (.istore 4, 2) := by decide +kernel
theorem dX8_tried_78 : decode cX8_tried 78 = .ok (.aload_n 0, 1) := by decide +kernel
theorem dX8_tried_79 : decode cX8_tried 79 = .ok (.getfield 72, 3) := by decide +kernel
theorem dX8_tried_82 : decode cX8_tried 82 = .ok (.bipush 8, 2) := by decide +kernel
theorem dX8_tried_84 : decode cX8_tried 84 = .ok (.iload_n 1, 1) := by decide +kernel
theorem dX8_tried_85 : decode cX8_tried 85 = .ok (.imul, 1) := by decide +kernel
theorem dX8_tried_86 : decode cX8_tried 86 = .ok (.iload_n 3, 1) := by decide +kernel
theorem dX8_tried_87 : decode cX8_tried 87 = .ok (.iadd, 1) := by decide +kernel
theorem dX8_tried_88 : decode cX8_tried 88 = .ok (.iaload, 1) := by decide +kernel
theorem dX8_tried_89 : decode cX8_tried 89 = .ok (.istore 5, 2) := by decide +kernel
theorem dX8_tried_91 : decode cX8_tried 91 = .ok (.iload 5, 2) := by decide +kernel
theorem dX8_tried_93 : decode cX8_tried 93 = .ok (.ifCond .ne 21, 3) := by decide +kernel
theorem dX8_tried_96 : decode cX8_tried 96 = .ok (.aload_n 0, 1) := by decide +kernel
theorem dX8_tried_97 : decode cX8_tried 97 = .ok (.getfield 132, 3) := by decide +kernel
theorem dX8_tried_100 : decode cX8_tried 100 = .ok (.iload 4, 2) := by decide +kernel
theorem dX8_tried_102 : decode cX8_tried 102 = .ok (.iaload, 1) := by decide +kernel
theorem dX8_tried_103 : decode cX8_tried 103 = .ok (.ifCond .eq 7, 3) := by decide +kernel
theorem dX8_tried_106 : decode cX8_tried 106 = .ok (.iconst 1, 1) := by decide +kernel
theorem dX8_tried_107 : decode cX8_tried 107 = .ok (.goto 30, 3) := by decide +kernel
theorem dX8_tried_110 : decode cX8_tried 110 = .ok (.iconst 0, 1) := by decide +kernel
theorem dX8_tried_111 : decode cX8_tried 111 = .ok (.goto 26, 3) := by decide +kernel
theorem dX8_tried_114 : decode cX8_tried 114 = .ok (.iload 5, 2) := by decide +kernel
theorem dX8_tried_116 : decode cX8_tried 116 = .ok (.ifCond .ge 20, 3) := by decide +kernel
theorem dX8_tried_119 : decode cX8_tried 119 = .ok (.aload_n 0, 1) := by decide +kernel
theorem dX8_tried_120 : decode cX8_tried 120 = .ok (.getfield 132, 3) := by decide +kernel
theorem dX8_tried_123 : decode cX8_tried 123 = .ok (.iload 4, 2) := by decide +kernel
theorem dX8_tried_125 : decode cX8_tried 125 = .ok (.iaload, 1) := by decide +kernel
theorem dX8_tried_126 : decode cX8_tried 126 = .ok (.iload 5, 2) := by decide +kernel
theorem dX8_tried_128 : decode cX8_tried 128 = .ok (.iadd, 1) := by decide +kernel
theorem dX8_tried_129 : decode cX8_tried 129 = .ok (.ifCond .ge 7, 3) := by decide +kernel
theorem dX8_tried_132 : decode cX8_tried 132 = .ok (.iconst 1, 1) := by decide +kernel
theorem dX8_tried_133 : decode cX8_tried 133 = .ok (.goto 4, 3) := by decide +kernel
theorem dX8_tried_136 : decode cX8_tried 136 = .ok (.iconst 0, 1) := by decide +kernel
theorem dX8_tried_137 : decode cX8_tried 137 = .ok (.istore 6, 2) := by decide +kernel
theorem dX8_tried_139 : decode cX8_tried 139 = .ok (.iload 6, 2) := by decide +kernel
theorem dX8_tried_141 : decode cX8_tried 141 = .ok (.ifCond .eq 12, 3) := by decide +kernel
theorem dX8_tried_144 : decode cX8_tried 144 = .ok (.aload_n 0, 1) := by decide +kernel
theorem dX8_tried_145 : decode cX8_tried 145 = .ok (.getfield 51, 3) := by decide +kernel
theorem dX8_tried_148 : decode cX8_tried 148 = .ok (.iload_n 1, 1) := by decide +kernel
theorem dX8_tried_149 : decode cX8_tried 149 = .ok (.iload_n 3, 1) := by decide +kernel
theorem dX8_tried_150 : decode cX8_tried 150 = .ok (.iastore, 1) := by decide +kernel
theorem dX8_tried_151 : decode cX8_tried 151 = .ok (.iconst 2, 1) := by decide +kernel
theorem dX8_tried_152 : decode cX8_tried 152 = .ok (.ireturn, 1) := by decide +kernel
theorem dX8_tried_153 : decode cX8_tried 153 = .ok (.aload_n 0, 1) := by decide +kernel
theorem dX8_tried_154 : decode cX8_tried 154 = .ok (.getfield 132, 3) := by decide +kernel
theorem dX8_tried_157 : decode cX8_tried 157 = .ok (.iload 4, 2) := by decide +kernel
theorem dX8_tried_159 : decode cX8_tried 159 = .ok (.dup2, 1) := by decide +kernel
theorem dX8_tried_160 : decode cX8_tried 160 = .ok (.iaload, 1) := by decide +kernel
theorem dX8_tried_161 : decode cX8_tried 161 = .ok (.iload 5, 2) := by decide +kernel
theorem dX8_tried_163 : decode cX8_tried 163 = .ok (.iadd, 1) := by decide +kernel
theorem dX8_tried_164 : decode cX8_tried 164 = .ok (.iastore, 1) := by decide +kernel
theorem dX8_tried_165 : decode cX8_tried 165 = .ok (.aload_n 0, 1) := by decide +kernel
theorem dX8_tried_166 : decode cX8_tried 166 = .ok (.getfield 132, 3) := by decide +kernel
theorem dX8_tried_169 : decode cX8_tried 169 = .ok (.iload 4, 2) := by decide +kernel
theorem dX8_tried_171 : decode cX8_tried 171 = .ok (.iaload, 1) := by decide +kernel
theorem dX8_tried_172 : decode cX8_tried 172 = .ok (.sipush 32767, 3) := by decide +kernel
theorem dX8_tried_175 : decode cX8_tried 175 = .ok (.if_icmp .le 5, 3) := by decide +kernel
theorem dX8_tried_178 : decode cX8_tried 178 = .ok (.iconst 3, 1) := by decide +kernel
theorem dX8_tried_179 : decode cX8_tried 179 = .ok (.ireturn, 1) := by decide +kernel
theorem dX8_tried_180 : decode cX8_tried 180 = .ok (.aload_n 0, 1) := by decide +kernel
theorem dX8_tried_181 : decode cX8_tried 181 = .ok (.getfield 75, 3) := by decide +kernel
theorem dX8_tried_184 : decode cX8_tried 184 = .ok (.bipush 8, 2) := by decide +kernel
theorem dX8_tried_186 : decode cX8_tried 186 = .ok (.iload_n 1, 1) := by decide +kernel
theorem dX8_tried_187 : decode cX8_tried 187 = .ok (.imul, 1) := by decide +kernel
theorem dX8_tried_188 : decode cX8_tried 188 = .ok (.iload_n 3, 1) := by decide +kernel
theorem dX8_tried_189 : decode cX8_tried 189 = .ok (.iadd, 1) := by decide +kernel
theorem dX8_tried_190 : decode cX8_tried 190 = .ok (.iaload, 1) := by decide +kernel
theorem dX8_tried_191 : decode cX8_tried 191 = .ok (.iconst 2, 1) := by decide +kernel
theorem dX8_tried_192 : decode cX8_tried 192 = .ok (.iand, 1) := by decide +kernel
theorem dX8_tried_193 : decode cX8_tried 193 = .ok (.ifCond .eq 37, 3) := by decide +kernel
theorem dX8_tried_196 : decode cX8_tried 196 = .ok (.aload_n 0, 1) := by decide +kernel
theorem dX8_tried_197 : decode cX8_tried 197 = .ok (.getfield 135, 3) := by decide +kernel
theorem dX8_tried_200 : decode cX8_tried 200 = .ok (.iload 4, 2) := by decide +kernel
theorem dX8_tried_202 : decode cX8_tried 202 = .ok (.dup2, 1) := by decide +kernel
theorem dX8_tried_203 : decode cX8_tried 203 = .ok (.iaload, 1) := by decide +kernel
theorem dX8_tried_204 : decode cX8_tried 204 = .ok (.iload 5, 2) := by decide +kernel
theorem dX8_tried_206 : decode cX8_tried 206 = .ok (.isub, 1) := by decide +kernel
theorem dX8_tried_207 : decode cX8_tried 207 = .ok (.iastore, 1) := by decide +kernel
theorem dX8_tried_208 : decode cX8_tried 208 = .ok (.aload_n 0, 1) := by decide +kernel
theorem dX8_tried_209 : decode cX8_tried 209 = .ok (.getfield 135, 3) := by decide +kernel
theorem dX8_tried_212 : decode cX8_tried 212 = .ok (.iload 4, 2) := by decide +kernel
theorem dX8_tried_214 : decode cX8_tried 214 = .ok (.iaload, 1) := by decide +kernel
theorem dX8_tried_215 : decode cX8_tried 215 = .ok (.i2l, 1) := by decide +kernel
theorem dX8_tried_216 : decode cX8_tried 216 = .ok (.ldc2_w 254, 3) := by decide +kernel
theorem dX8_tried_219 : decode cX8_tried 219 = .ok (.ldc2_w 256, 3) := by decide +kernel
theorem dX8_tried_222 : decode cX8_tried 222 = .ok (.invokestatic 142, 3) := by decide +kernel
theorem dX8_tried_225 : decode cX8_tried 225 = .ok (.ifCond .ne 5, 3) := by decide +kernel
theorem dX8_tried_228 : decode cX8_tried 228 = .ok (.iconst 3, 1) := by decide +kernel
theorem dX8_tried_229 : decode cX8_tried 229 = .ok (.ireturn, 1) := by decide +kernel
theorem dX8_tried_230 : decode cX8_tried 230 = .ok (.iinc 3 1, 3) := by decide +kernel
theorem dX8_tried_233 : decode cX8_tried 233 = .ok (.goto (-178), 3) := by decide +kernel
theorem dX8_tried_236 : decode cX8_tried 236 = .ok (.iconst 0, 1) := by decide +kernel
theorem dX8_tried_237 : decode cX8_tried 237 = .ok (.istore_n 3, 1) := by decide +kernel
theorem dX8_tried_238 : decode cX8_tried 238 = .ok (.iconst 0, 1) := by decide +kernel
theorem dX8_tried_239 : decode cX8_tried 239 = .ok (.istore 4, 2) := by decide +kernel
theorem dX8_tried_241 : decode cX8_tried 241 = .ok (.iload 4, 2) := by decide +kernel
theorem dX8_tried_243 : decode cX8_tried 243 = .ok (.bipush 8, 2) := by decide +kernel
theorem dX8_tried_245 : decode cX8_tried 245 = .ok (.if_icmp .ge 84, 3) := by decide +kernel
theorem dX8_tried_248 : decode cX8_tried 248 = .ok (.iload_n 3, 1) := by decide +kernel
theorem dX8_tried_249 : decode cX8_tried 249 = .ok (.ifCond .ne 25, 3) := by decide +kernel
theorem dX8_tried_252 : decode cX8_tried 252 = .ok (.aload_n 0, 1) := by decide +kernel
theorem dX8_tried_253 : decode cX8_tried 253 = .ok (.getfield 132, 3) := by decide +kernel
theorem dX8_tried_256 : decode cX8_tried 256 = .ok (.iload 4, 2) := by decide +kernel
theorem dX8_tried_258 : decode cX8_tried 258 = .ok (.iaload, 1) := by decide +kernel
theorem dX8_tried_259 : decode cX8_tried 259 = .ok (.aload_n 0, 1) := by decide +kernel
theorem dX8_tried_260 : decode cX8_tried 260 = .ok (.getfield 123, 3) := by decide +kernel
theorem dX8_tried_263 : decode cX8_tried 263 = .ok (.bipush 8, 2) := by decide +kernel
theorem dX8_tried_265 : decode cX8_tried 265 = .ok (.iload_n 2, 1) := by decide +kernel
theorem dX8_tried_266 : decode cX8_tried 266 = .ok (.imul, 1) := by decide +kernel
theorem dX8_tried_267 : decode cX8_tried 267 = .ok (.iload 4, 2) := by decide +kernel
theorem dX8_tried_269 : decode cX8_tried 269 = .ok (.iadd, 1) := by decide +kernel
theorem dX8_tried_270 : decode cX8_tried 270 = .ok (.iaload, 1) := by decide +kernel
theorem dX8_tried_271 : decode cX8_tried 271 = .ok (.if_icmp .eq 7, 3) := by decide +kernel
theorem dX8_tried_274 : decode cX8_tried 274 = .ok (.iconst 1, 1) := by decide +kernel
theorem dX8_tried_275 : decode cX8_tried 275 = .ok (.goto 4, 3) := by decide +kernel
theorem dX8_tried_278 : decode cX8_tried 278 = .ok (.iconst 0, 1) := by decide +kernel
theorem dX8_tried_279 : decode cX8_tried 279 = .ok (.istore_n 3, 1) := by decide +kernel
theorem dX8_tried_280 : decode cX8_tried 280 = .ok (.aload_n 0, 1) := by decide +kernel
theorem dX8_tried_281 : decode cX8_tried 281 = .ok (.getfield 123, 3) := by decide +kernel
theorem dX8_tried_284 : decode cX8_tried 284 = .ok (.bipush 8, 2) := by decide +kernel
theorem dX8_tried_286 : decode cX8_tried 286 = .ok (.iload_n 2, 1) := by decide +kernel
theorem dX8_tried_287 : decode cX8_tried 287 = .ok (.imul, 1) := by decide +kernel
theorem dX8_tried_288 : decode cX8_tried 288 = .ok (.iload 4, 2) := by decide +kernel
theorem dX8_tried_290 : decode cX8_tried 290 = .ok (.iadd, 1) := by decide +kernel
theorem dX8_tried_291 : decode cX8_tried 291 = .ok (.aload_n 0, 1) := by decide +kernel
theorem dX8_tried_292 : decode cX8_tried 292 = .ok (.getfield 132, 3) := by decide +kernel
theorem dX8_tried_295 : decode cX8_tried 295 = .ok (.iload 4, 2) := by decide +kernel
theorem dX8_tried_297 : decode cX8_tried 297 = .ok (.iaload, 1) := by decide +kernel
theorem dX8_tried_298 : decode cX8_tried 298 = .ok (.iastore, 1) := by decide +kernel
theorem dX8_tried_299 : decode cX8_tried 299 = .ok (.aload_n 0, 1) := by decide +kernel
theorem dX8_tried_300 : decode cX8_tried 300 = .ok (.getfield 129, 3) := by decide +kernel
theorem dX8_tried_303 : decode cX8_tried 303 = .ok (.bipush 96, 2) := by decide +kernel
theorem dX8_tried_305 : decode cX8_tried 305 = .ok (.iload_n 1, 1) := by decide +kernel
theorem dX8_tried_306 : decode cX8_tried 306 = .ok (.imul, 1) := by decide +kernel
theorem dX8_tried_307 : decode cX8_tried 307 = .ok (.bipush 8, 2) := by decide +kernel
theorem dX8_tried_309 : decode cX8_tried 309 = .ok (.iload_n 2, 1) := by decide +kernel
theorem dX8_tried_310 : decode cX8_tried 310 = .ok (.imul, 1) := by decide +kernel
theorem dX8_tried_311 : decode cX8_tried 311 = .ok (.iadd, 1) := by decide +kernel
theorem dX8_tried_312 : decode cX8_tried 312 = .ok (.iload 4, 2) := by decide +kernel
theorem dX8_tried_314 : decode cX8_tried 314 = .ok (.iadd, 1) := by decide +kernel
theorem dX8_tried_315 : decode cX8_tried 315 = .ok (.aload_n 0, 1) := by decide +kernel
theorem dX8_tried_316 : decode cX8_tried 316 = .ok (.getfield 135, 3) := by decide +kernel
theorem dX8_tried_319 : decode cX8_tried 319 = .ok (.iload 4, 2) := by decide +kernel
theorem dX8_tried_321 : decode cX8_tried 321 = .ok (.iaload, 1) := by decide +kernel
theorem dX8_tried_322 : decode cX8_tried 322 = .ok (.iastore, 1) := by decide +kernel
theorem dX8_tried_323 : decode cX8_tried 323 = .ok (.iinc 4 1, 3) := by decide +kernel
theorem dX8_tried_326 : decode cX8_tried 326 = .ok (.goto (-85), 3) := by decide +kernel
theorem dX8_tried_329 : decode cX8_tried 329 = .ok (.iconst 0, 1) := by decide +kernel
theorem dX8_tried_330 : decode cX8_tried 330 = .ok (.istore 4, 2) := by decide +kernel
theorem dX8_tried_332 : decode cX8_tried 332 = .ok (.iload 4, 2) := by decide +kernel
theorem dX8_tried_334 : decode cX8_tried 334 = .ok (.aload_n 0, 1) := by decide +kernel
theorem dX8_tried_335 : decode cX8_tried 335 = .ok (.getfield 66, 3) := by decide +kernel
theorem dX8_tried_338 : decode cX8_tried 338 = .ok (.iload_n 1, 1) := by decide +kernel
theorem dX8_tried_339 : decode cX8_tried 339 = .ok (.iaload, 1) := by decide +kernel
theorem dX8_tried_340 : decode cX8_tried 340 = .ok (.if_icmp .ge 32, 3) := by decide +kernel
theorem dX8_tried_343 : decode cX8_tried 343 = .ok (.aload_n 0, 1) := by decide +kernel
theorem dX8_tried_344 : decode cX8_tried 344 = .ok (.getfield 126, 3) := by decide +kernel
theorem dX8_tried_347 : decode cX8_tried 347 = .ok (.bipush 8, 2) := by decide +kernel
theorem dX8_tried_349 : decode cX8_tried 349 = .ok (.iload_n 2, 1) := by decide +kernel
theorem dX8_tried_350 : decode cX8_tried 350 = .ok (.imul, 1) := by decide +kernel
theorem dX8_tried_351 : decode cX8_tried 351 = .ok (.aload_n 0, 1) := by decide +kernel
theorem dX8_tried_352 : decode cX8_tried 352 = .ok (.getfield 69, 3) := by decide +kernel
theorem dX8_tried_355 : decode cX8_tried 355 = .ok (.bipush 8, 2) := by decide +kernel
theorem dX8_tried_357 : decode cX8_tried 357 = .ok (.iload_n 1, 1) := by decide +kernel
theorem dX8_tried_358 : decode cX8_tried 358 = .ok (.imul, 1) := by decide +kernel
theorem dX8_tried_359 : decode cX8_tried 359 = .ok (.iload 4, 2) := by decide +kernel
theorem dX8_tried_361 : decode cX8_tried 361 = .ok (.iadd, 1) := by decide +kernel
theorem dX8_tried_362 : decode cX8_tried 362 = .ok (.iaload, 1) := by decide +kernel
theorem dX8_tried_363 : decode cX8_tried 363 = .ok (.iadd, 1) := by decide +kernel
theorem dX8_tried_364 : decode cX8_tried 364 = .ok (.iload_n 1, 1) := by decide +kernel
theorem dX8_tried_365 : decode cX8_tried 365 = .ok (.iastore, 1) := by decide +kernel
theorem dX8_tried_366 : decode cX8_tried 366 = .ok (.iinc 4 1, 3) := by decide +kernel
theorem dX8_tried_369 : decode cX8_tried 369 = .ok (.goto (-37), 3) := by decide +kernel
theorem dX8_tried_372 : decode cX8_tried 372 = .ok (.iload_n 3, 1) := by decide +kernel
theorem dX8_tried_373 : decode cX8_tried 373 = .ok (.ifCond .eq 7, 3) := by decide +kernel
theorem dX8_tried_376 : decode cX8_tried 376 = .ok (.iconst 1, 1) := by decide +kernel
theorem dX8_tried_377 : decode cX8_tried 377 = .ok (.goto 4, 3) := by decide +kernel
theorem dX8_tried_380 : decode cX8_tried 380 = .ok (.iconst 0, 1) := by decide +kernel
theorem dX8_tried_381 : decode cX8_tried 381 = .ok (.ireturn, 1) := by decide +kernel
theorem dX8_serve_0 : decode cX8_serve 0 = .ok (.aload_n 0, 1) := by decide +kernel
theorem dX8_serve_1 : decode cX8_serve 1 = .ok (.iconst 3, 1) := by decide +kernel
theorem dX8_serve_2 : decode cX8_serve 2 = .ok (.iload_n 1, 1) := by decide +kernel
theorem dX8_serve_3 : decode cX8_serve 3 = .ok (.iconst 0, 1) := by decide +kernel
theorem dX8_serve_4 : decode cX8_serve 4 = .ok (.invokevirtual 224, 3) := by decide +kernel
theorem dX8_serve_7 : decode cX8_serve 7 = .ok (.istore_n 2, 1) := by decide +kernel
theorem dX8_serve_8 : decode cX8_serve 8 = .ok (.iload_n 2, 1) := by decide +kernel
theorem dX8_serve_9 : decode cX8_serve 9 = .ok (.iconst (-1), 1) := by decide +kernel
theorem dX8_serve_10 : decode cX8_serve 10 = .ok (.if_icmp .eq 62, 3) := by decide +kernel
theorem dX8_serve_13 : decode cX8_serve 13 = .ok (.aload_n 0, 1) := by decide +kernel
theorem dX8_serve_14 : decode cX8_serve 14 = .ok (.getfield 33, 3) := by decide +kernel
theorem dX8_serve_17 : decode cX8_serve 17 = .ok (.iload_n 2, 1) := by decide +kernel
theorem dX8_serve_18 : decode cX8_serve 18 = .ok (.iaload, 1) := by decide +kernel
theorem dX8_serve_19 : decode cX8_serve 19 = .ok (.istore_n 3, 1) := by decide +kernel
theorem dX8_serve_20 : decode cX8_serve 20 = .ok (.aload_n 0, 1) := by decide +kernel
theorem dX8_serve_21 : decode cX8_serve 21 = .ok (.iload_n 2, 1) := by decide +kernel
theorem dX8_serve_22 : decode cX8_serve 22 = .ok (.iload_n 1, 1) := by decide +kernel
theorem dX8_serve_23 : decode cX8_serve 23 = .ok (.invokevirtual 260, 3) := by decide +kernel
theorem dX8_serve_26 : decode cX8_serve 26 = .ok (.istore 4, 2) := by decide +kernel
theorem dX8_serve_28 : decode cX8_serve 28 = .ok (.iload 4, 2) := by decide +kernel
theorem dX8_serve_30 : decode cX8_serve 30 = .ok (.iconst 2, 1) := by decide +kernel
theorem dX8_serve_31 : decode cX8_serve 31 = .ok (.if_icmp .eq 20, 3) := by decide +kernel
theorem dX8_serve_34 : decode cX8_serve 34 = .ok (.aload_n 0, 1) := by decide +kernel
theorem dX8_serve_35 : decode cX8_serve 35 = .ok (.iload_n 2, 1) := by decide +kernel

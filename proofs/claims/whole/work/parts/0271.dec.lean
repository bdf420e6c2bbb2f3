theorem dX0_init_0 : decode cX0_init 0 = .ok (.aload_n 0, 1) := by decide +kernel
theorem dX0_init_1 : decode cX0_init 1 = .ok (.iload_n 1, 1) := by decide +kernel
theorem dX0_init_2 : decode cX0_init 2 = .ok (.invokespecial 3, 3) := by decide +kernel
theorem dX0_init_5 : decode cX0_init 5 = .ok (.aload_n 0, 1) := by decide +kernel
theorem dX0_init_6 : decode cX0_init 6 = .ok (.iconst 0, 1) := by decide +kernel
theorem dX0_init_7 : decode cX0_init 7 = .ok (.putfield 9, 3) := by decide +kernel
theorem dX0_init_10 : decode cX0_init 10 = .ok (.aload_n 0, 1) := by decide +kernel
theorem dX0_init_11 : decode cX0_init 11 = .ok (.bipush 8, 2) := by decide +kernel
theorem dX0_init_13 : decode cX0_init 13 = .ok (.newarray .int, 2) := by decide +kernel
theorem dX0_init_15 : decode cX0_init 15 = .ok (.putfield 15, 3) := by decide +kernel
theorem dX0_init_18 : decode cX0_init 18 = .ok (.aload_n 0, 1) := by decide +kernel
theorem dX0_init_19 : decode cX0_init 19 = .ok (.bipush 8, 2) := by decide +kernel
theorem dX0_init_21 : decode cX0_init 21 = .ok (.newarray .int, 2) := by decide +kernel
theorem dX0_init_23 : decode cX0_init 23 = .ok (.putfield 19, 3) := by decide +kernel
theorem dX0_init_26 : decode cX0_init 26 = .ok (.aload_n 0, 1) := by decide +kernel
theorem dX0_init_27 : decode cX0_init 27 = .ok (.sipush 128, 3) := by decide +kernel
theorem dX0_init_30 : decode cX0_init 30 = .ok (.newarray .int, 2) := by decide +kernel
theorem dX0_init_32 : decode cX0_init 32 = .ok (.putfield 22, 3) := by decide +kernel
theorem dX0_init_35 : decode cX0_init 35 = .ok (.aload_n 0, 1) := by decide +kernel
theorem dX0_init_36 : decode cX0_init 36 = .ok (.bipush 8, 2) := by decide +kernel
theorem dX0_init_38 : decode cX0_init 38 = .ok (.newarray .int, 2) := by decide +kernel
theorem dX0_init_40 : decode cX0_init 40 = .ok (.putfield 25, 3) := by decide +kernel
theorem dX0_init_43 : decode cX0_init 43 = .ok (.aload_n 0, 1) := by decide +kernel
theorem dX0_init_44 : decode cX0_init 44 = .ok (.bipush 8, 2) := by decide +kernel
theorem dX0_init_46 : decode cX0_init 46 = .ok (.newarray .int, 2) := by decide +kernel
theorem dX0_init_48 : decode cX0_init 48 = .ok (.putfield 28, 3) := by decide +kernel
theorem dX0_init_51 : decode cX0_init 51 = .ok (.aload_n 0, 1) := by decide +kernel
theorem dX0_init_52 : decode cX0_init 52 = .ok (.iconst 0, 1) := by decide +kernel
theorem dX0_init_53 : decode cX0_init 53 = .ok (.putfield 31, 3) := by decide +kernel
theorem dX0_init_56 : decode cX0_init 56 = .ok (.return_, 1) := by decide +kernel
theorem dX0_clear_0 : decode cX0_clear 0 = .ok (.aload_n 0, 1) := by decide +kernel
theorem dX0_clear_1 : decode cX0_clear 1 = .ok (.iload_n 1, 1) := by decide +kernel
theorem dX0_clear_2 : decode cX0_clear 2 = .ok (.putfield 9, 3) := by decide +kernel
theorem dX0_clear_5 : decode cX0_clear 5 = .ok (.iconst 0, 1) := by decide +kernel
theorem dX0_clear_6 : decode cX0_clear 6 = .ok (.istore_n 2, 1) := by decide +kernel
theorem dX0_clear_7 : decode cX0_clear 7 = .ok (.iload_n 2, 1) := by decide +kernel
theorem dX0_clear_8 : decode cX0_clear 8 = .ok (.bipush 8, 2) := by decide +kernel
theorem dX0_clear_10 : decode cX0_clear 10 = .ok (.if_icmp .ge 23, 3) := by decide +kernel
theorem dX0_clear_13 : decode cX0_clear 13 = .ok (.aload_n 0, 1) := by decide +kernel
theorem dX0_clear_14 : decode cX0_clear 14 = .ok (.getfield 15, 3) := by decide +kernel
theorem dX0_clear_17 : decode cX0_clear 17 = .ok (.iload_n 2, 1) := by decide +kernel
theorem dX0_clear_18 : decode cX0_clear 18 = .ok (.iconst 0, 1) := by decide +kernel
theorem dX0_clear_19 : decode cX0_clear 19 = .ok (.iastore, 1) := by decide +kernel
theorem dX0_clear_20 : decode cX0_clear 20 = .ok (.aload_n 0, 1) := by decide +kernel
theorem dX0_clear_21 : decode cX0_clear 21 = .ok (.getfield 19, 3) := by decide +kernel
theorem dX0_clear_24 : decode cX0_clear 24 = .ok (.iload_n 2, 1) := by decide +kernel
theorem dX0_clear_25 : decode cX0_clear 25 = .ok (.iconst (-1), 1) := by decide +kernel
theorem dX0_clear_26 : decode cX0_clear 26 = .ok (.iastore, 1) := by decide +kernel
theorem dX0_clear_27 : decode cX0_clear 27 = .ok (.iinc 2 1, 3) := by decide +kernel
theorem dX0_clear_30 : decode cX0_clear 30 = .ok (.goto (-23), 3) := by decide +kernel
theorem dX0_clear_33 : decode cX0_clear 33 = .ok (.iconst 0, 1) := by decide +kernel
theorem dX0_clear_34 : decode cX0_clear 34 = .ok (.istore_n 2, 1) := by decide +kernel
theorem dX0_clear_35 : decode cX0_clear 35 = .ok (.iload_n 2, 1) := by decide +kernel
theorem dX0_clear_36 : decode cX0_clear 36 = .ok (.sipush 128, 3) := by decide +kernel
theorem dX0_clear_39 : decode cX0_clear 39 = .ok (.if_icmp .ge 16, 3) := by decide +kernel
theorem dX0_clear_42 : decode cX0_clear 42 = .ok (.aload_n 0, 1) := by decide +kernel
theorem dX0_clear_43 : decode cX0_clear 43 = .ok (.getfield 22, 3) := by decide +kernel
theorem dX0_clear_46 : decode cX0_clear 46 = .ok (.iload_n 2, 1) := by decide +kernel
theorem dX0_clear_47 : decode cX0_clear 47 = .ok (.iconst 0, 1) := by decide +kernel
theorem dX0_clear_48 : decode cX0_clear 48 = .ok (.iastore, 1) := by decide +kernel
theorem dX0_clear_49 : decode cX0_clear 49 = .ok (.iinc 2 1, 3) := by decide +kernel
theorem dX0_clear_52 : decode cX0_clear 52 = .ok (.goto (-17), 3) := by decide +kernel
theorem dX0_clear_55 : decode cX0_clear 55 = .ok (.return_, 1) := by decide +kernel
theorem dX0_hasCounter_0 : decode cX0_hasCounter 0 = .ok (.iload_n 1, 1) := by decide +kernel
theorem dX0_hasCounter_1 : decode cX0_hasCounter 1 = .ok (.ifCond .lt 21, 3) := by decide +kernel
theorem dX0_hasCounter_4 : decode cX0_hasCounter 4 = .ok (.iload_n 1, 1) := by decide +kernel
theorem dX0_hasCounter_5 : decode cX0_hasCounter 5 = .ok (.aload_n 0, 1) := by decide +kernel
theorem dX0_hasCounter_6 : decode cX0_hasCounter 6 = .ok (.getfield 9, 3) := by decide +kernel
theorem dX0_hasCounter_9 : decode cX0_hasCounter 9 = .ok (.if_icmp .ge 13, 3) := by decide +kernel
theorem dX0_hasCounter_12 : decode cX0_hasCounter 12 = .ok (.iload_n 1, 1) := by decide +kernel
theorem dX0_hasCounter_13 : decode cX0_hasCounter 13 = .ok (.bipush 8, 2) := by decide +kernel
theorem dX0_hasCounter_15 : decode cX0_hasCounter 15 = .ok (.if_icmp .ge 7, 3) := by decide +kernel
theorem dX0_hasCounter_18 : decode cX0_hasCounter 18 = .ok (.iconst 1, 1) := by decide +kernel
theorem dX0_hasCounter_19 : decode cX0_hasCounter 19 = .ok (.goto 4, 3) := by decide +kernel
theorem dX0_hasCounter_22 : decode cX0_hasCounter 22 = .ok (.iconst 0, 1) := by decide +kernel
theorem dX0_hasCounter_23 : decode cX0_hasCounter 23 = .ok (.ireturn, 1) := by decide +kernel
theorem dX0_undoOf_0 : decode cX0_undoOf 0 = .ok (.aload_n 0, 1) := by decide +kernel
theorem dX0_undoOf_1 : decode cX0_undoOf 1 = .ok (.iload_n 2, 1) := by decide +kernel
theorem dX0_undoOf_2 : decode cX0_undoOf 2 = .ok (.invokevirtual 35, 3) := by decide +kernel
theorem dX0_undoOf_5 : decode cX0_undoOf 5 = .ok (.ifCond .eq 26, 3) := by decide +kernel
theorem dX0_undoOf_8 : decode cX0_undoOf 8 = .ok (.iload_n 1, 1) := by decide +kernel
theorem dX0_undoOf_9 : decode cX0_undoOf 9 = .ok (.bipush 15, 2) := by decide +kernel
theorem dX0_undoOf_11 : decode cX0_undoOf 11 = .ok (.invokestatic 39, 3) := by decide +kernel
theorem dX0_undoOf_14 : decode cX0_undoOf 14 = .ok (.ifCond .eq 17, 3) := by decide +kernel
theorem dX0_undoOf_17 : decode cX0_undoOf 17 = .ok (.aload_n 0, 1) := by decide +kernel
theorem dX0_undoOf_18 : decode cX0_undoOf 18 = .ok (.getfield 22, 3) := by decide +kernel
theorem dX0_undoOf_21 : decode cX0_undoOf 21 = .ok (.iload_n 1, 1) := by decide +kernel
theorem dX0_undoOf_22 : decode cX0_undoOf 22 = .ok (.bipush 8, 2) := by decide +kernel
theorem dX0_undoOf_24 : decode cX0_undoOf 24 = .ok (.imul, 1) := by decide +kernel
theorem dX0_undoOf_25 : decode cX0_undoOf 25 = .ok (.iload_n 2, 1) := by decide +kernel
theorem dX0_undoOf_26 : decode cX0_undoOf 26 = .ok (.iadd, 1) := by decide +kernel
theorem dX0_undoOf_27 : decode cX0_undoOf 27 = .ok (.iaload, 1) := by decide +kernel
theorem dX0_undoOf_28 : decode cX0_undoOf 28 = .ok (.goto 4, 3) := by decide +kernel
theorem dX0_undoOf_31 : decode cX0_undoOf 31 = .ok (.iconst 0, 1) := by decide +kernel
theorem dX0_undoOf_32 : decode cX0_undoOf 32 = .ok (.ireturn, 1) := by decide +kernel
theorem dX0_putUndo_0 : decode cX0_putUndo 0 = .ok (.iload_n 2, 1) := by decide +kernel
theorem dX0_putUndo_1 : decode cX0_putUndo 1 = .ok (.ifCond .lt 31, 3) := by decide +kernel
theorem dX0_putUndo_4 : decode cX0_putUndo 4 = .ok (.iload_n 2, 1) := by decide +kernel
theorem dX0_putUndo_5 : decode cX0_putUndo 5 = .ok (.bipush 8, 2) := by decide +kernel
theorem dX0_putUndo_7 : decode cX0_putUndo 7 = .ok (.if_icmp .ge 25, 3) := by decide +kernel
theorem dX0_putUndo_10 : decode cX0_putUndo 10 = .ok (.iload_n 1, 1) := by decide +kernel
theorem dX0_putUndo_11 : decode cX0_putUndo 11 = .ok (.ifCond .lt 21, 3) := by decide +kernel
theorem dX0_putUndo_14 : decode cX0_putUndo 14 = .ok (.iload_n 1, 1) := by decide +kernel
theorem dX0_putUndo_15 : decode cX0_putUndo 15 = .ok (.bipush 16, 2) := by decide +kernel
theorem dX0_putUndo_17 : decode cX0_putUndo 17 = .ok (.if_icmp .ge 15, 3) := by decide +kernel
theorem dX0_putUndo_20 : decode cX0_putUndo 20 = .ok (.aload_n 0, 1) := by decide +kernel
theorem dX0_putUndo_21 : decode cX0_putUndo 21 = .ok (.getfield 22, 3) := by decide +kernel
theorem dX0_putUndo_24 : decode cX0_putUndo 24 = .ok (.iload_n 1, 1) := by decide +kernel
theorem dX0_putUndo_25 : decode cX0_putUndo 25 = .ok (.bipush 8, 2) := by decide +kernel
theorem dX0_putUndo_27 : decode cX0_putUndo 27 = .ok (.imul, 1) := by decide +kernel
theorem dX0_putUndo_28 : decode cX0_putUndo 28 = .ok (.iload_n 2, 1) := by decide +kernel
theorem dX0_putUndo_29 : decode cX0_putUndo 29 = .ok (.iadd, 1) := by decide +kernel
theorem dX0_putUndo_30 : decode cX0_putUndo 30 = .ok (.iload_n 3, 1) := by decide +kernel
theorem dX0_putUndo_31 : decode cX0_putUndo 31 = .ok (.iastore, 1) := by decide +kernel
theorem dX0_putUndo_32 : decode cX0_putUndo 32 = .ok (.return_, 1) := by decide +kernel
theorem dX0_put_0 : decode cX0_put 0 = .ok (.aload_n 0, 1) := by decide +kernel
theorem dX0_put_1 : decode cX0_put 1 = .ok (.iload_n 1, 1) := by decide +kernel
theorem dX0_put_2 : decode cX0_put 2 = .ok (.invokevirtual 35, 3) := by decide +kernel
theorem dX0_put_5 : decode cX0_put 5 = .ok (.ifCond .ne 5, 3) := by decide +kernel
theorem dX0_put_8 : decode cX0_put 8 = .ok (.iconst 0, 1) := by decide +kernel
theorem dX0_put_9 : decode cX0_put 9 = .ok (.ireturn, 1) := by decide +kernel
theorem dX0_put_10 : decode cX0_put 10 = .ok (.aload_n 0, 1) := by decide +kernel
theorem dX0_put_11 : decode cX0_put 11 = .ok (.getfield 15, 3) := by decide +kernel
theorem dX0_put_14 : decode cX0_put 14 = .ok (.iload_n 1, 1) := by decide +kernel
theorem dX0_put_15 : decode cX0_put 15 = .ok (.iaload, 1) := by decide +kernel
theorem dX0_put_16 : decode cX0_put 16 = .ok (.iload_n 2, 1) := by decide +kernel
theorem dX0_put_17 : decode cX0_put 17 = .ok (.if_icmp .eq 7, 3) := by decide +kernel
theorem dX0_put_20 : decode cX0_put 20 = .ok (.iconst 1, 1) := by decide +kernel
theorem dX0_put_21 : decode cX0_put 21 = .ok (.goto 4, 3) := by decide +kernel
theorem dX0_put_24 : decode cX0_put 24 = .ok (.iconst 0, 1) := by decide +kernel
theorem dX0_put_25 : decode cX0_put 25 = .ok (.istore 4, 2) := by decide +kernel
theorem dX0_put_27 : decode cX0_put 27 = .ok (.aload_n 0, 1) := by decide +kernel
theorem dX0_put_28 : decode cX0_put 28 = .ok (.getfield 15, 3) := by decide +kernel
theorem dX0_put_31 : decode cX0_put 31 = .ok (.iload_n 1, 1) := by decide +kernel
theorem dX0_put_32 : decode cX0_put 32 = .ok (.iload_n 2, 1) := by decide +kernel
theorem dX0_put_33 : decode cX0_put 33 = .ok (.iastore, 1) := by decide +kernel
theorem dX0_put_34 : decode cX0_put 34 = .ok (.aload_n 0, 1) := by decide +kernel
theorem dX0_put_35 : decode cX0_put 35 = .ok (.getfield 19, 3) := by decide +kernel
theorem dX0_put_38 : decode cX0_put 38 = .ok (.iload_n 1, 1) := by decide +kernel
theorem dX0_put_39 : decode cX0_put 39 = .ok (.iload_n 3, 1) := by decide +kernel
theorem dX0_put_40 : decode cX0_put 40 = .ok (.iastore, 1) := by decide +kernel
theorem dX0_put_41 : decode cX0_put 41 = .ok (.iconst 0, 1) := by decide +kernel
theorem dX0_put_42 : decode cX0_put 42 = .ok (.istore 5, 2) := by decide +kernel
theorem dX0_put_44 : decode cX0_put 44 = .ok (.iload 5, 2) := by decide +kernel
theorem dX0_put_46 : decode cX0_put 46 = .ok (.bipush 16, 2) := by decide +kernel
theorem dX0_put_48 : decode cX0_put 48 = .ok (.if_icmp .ge 17, 3) := by decide +kernel
theorem dX0_put_51 : decode cX0_put 51 = .ok (.aload_n 0, 1) := by decide +kernel
theorem dX0_put_52 : decode cX0_put 52 = .ok (.iload 5, 2) := by decide +kernel
theorem dX0_put_54 : decode cX0_put 54 = .ok (.iload_n 1, 1) := by decide +kernel
theorem dX0_put_55 : decode cX0_put 55 = .ok (.iconst 0, 1) := by decide +kernel
theorem dX0_put_56 : decode cX0_put 56 = .ok (.invokevirtual 43, 3) := by decide +kernel
theorem dX0_put_59 : decode cX0_put 59 = .ok (.iinc 5 1, 3) := by decide +kernel
theorem dX0_put_62 : decode cX0_put 62 = .ok (.goto (-18), 3) := by decide +kernel
theorem dX0_put_65 : decode cX0_put 65 = .ok (.iload 4, 2) := by decide +kernel
theorem dX0_put_67 : decode cX0_put 67 = .ok (.ireturn, 1) := by decide +kernel
theorem dX0_takeBack_0 : decode cX0_takeBack 0 = .ok (.iconst 0, 1) := by decide +kernel
theorem dX0_takeBack_1 : decode cX0_takeBack 1 = .ok (.istore_n 2, 1) := by decide +kernel
theorem dX0_takeBack_2 : decode cX0_takeBack 2 = .ok (.iconst 0, 1) := by decide +kernel
theorem dX0_takeBack_3 : decode cX0_takeBack 3 = .ok (.istore_n 3, 1) := by decide +kernel
theorem dX0_takeBack_4 : decode cX0_takeBack 4 = .ok (.iload_n 3, 1) := by decide +kernel
theorem dX0_takeBack_5 : decode cX0_takeBack 5 = .ok (.aload_n 0, 1) := by decide +kernel
theorem dX0_takeBack_6 : decode cX0_takeBack 6 = .ok (.getfield 9, 3) := by decide +kernel
theorem dX0_takeBack_9 : decode cX0_takeBack 9 = .ok (.if_icmp .ge 92, 3) := by decide +kernel
theorem dX0_takeBack_12 : decode cX0_takeBack 12 = .ok (.iload_n 3, 1) := by decide +kernel
theorem dX0_takeBack_13 : decode cX0_takeBack 13 = .ok (.bipush 8, 2) := by decide +kernel
theorem dX0_takeBack_15 : decode cX0_takeBack 15 = .ok (.if_icmp .ge 86, 3) := by decide +kernel
theorem dX0_takeBack_18 : decode cX0_takeBack 18 = .ok (.aload_n 0, 1) := by decide +kernel
theorem dX0_takeBack_19 : decode cX0_takeBack 19 = .ok (.iload_n 1, 1) := by decide +kernel
theorem dX0_takeBack_20 : decode cX0_takeBack 20 = .ok (.iload_n 3, 1) := by decide +kernel
theorem dX0_takeBack_21 : decode cX0_takeBack 21 = .ok (.invokevirtual 47, 3) := by decide +kernel
theorem dX0_takeBack_24 : decode cX0_takeBack 24 = .ok (.istore 4, 2) := by decide +kernel
theorem dX0_takeBack_26 : decode cX0_takeBack 26 = .ok (.iload 4, 2) := by decide +kernel
theorem dX0_takeBack_28 : decode cX0_takeBack 28 = .ok (.ifCond .eq 67, 3) := by decide +kernel
theorem dX0_takeBack_31 : decode cX0_takeBack 31 = .ok (.iconst 0, 1) := by decide +kernel
theorem dX0_takeBack_32 : decode cX0_takeBack 32 = .ok (.sipush 32767, 3) := by decide +kernel
theorem dX0_takeBack_35 : decode cX0_takeBack 35 = .ok (.aload_n 0, 1) := by decide +kernel
theorem dX0_takeBack_36 : decode cX0_takeBack 36 = .ok (.getfield 15, 3) := by decide +kernel
theorem dX0_takeBack_39 : decode cX0_takeBack 39 = .ok (.iload_n 3, 1) := by decide +kernel
theorem dX0_takeBack_40 : decode cX0_takeBack 40 = .ok (.iaload, 1) := by decide +kernel
theorem dX0_takeBack_41 : decode cX0_takeBack 41 = .ok (.iload 4, 2) := by decide +kernel
theorem dX0_takeBack_43 : decode cX0_takeBack 43 = .ok (.iadd, 1) := by decide +kernel
theorem dX0_takeBack_44 : decode cX0_takeBack 44 = .ok (.invokestatic 51, 3) := by decide +kernel
theorem dX0_takeBack_47 : decode cX0_takeBack 47 = .ok (.invokestatic 56, 3) := by decide +kernel
theorem dX0_takeBack_50 : decode cX0_takeBack 50 = .ok (.istore 5, 2) := by decide +kernel
theorem dX0_takeBack_52 : decode cX0_takeBack 52 = .ok (.iload_n 2, 1) := by decide +kernel
theorem dX0_takeBack_53 : decode cX0_takeBack 53 = .ok (.ifCond .ne 14, 3) := by decide +kernel
theorem dX0_takeBack_56 : decode cX0_takeBack 56 = .ok (.iload 5, 2) := by decide +kernel
theorem dX0_takeBack_58 : decode cX0_takeBack 58 = .ok (.aload_n 0, 1) := by decide +kernel
theorem dX0_takeBack_59 : decode cX0_takeBack 59 = .ok (.getfield 15, 3) := by decide +kernel
theorem dX0_takeBack_62 : decode cX0_takeBack 62 = .ok (.iload_n 3, 1) := by decide +kernel
theorem dX0_takeBack_63 : decode cX0_takeBack 63 = .ok (.iaload, 1) := by decide +kernel
theorem dX0_takeBack_64 : decode cX0_takeBack 64 = .ok (.if_icmp .eq 7, 3) := by decide +kernel
theorem dX0_takeBack_67 : decode cX0_takeBack 67 = .ok (.iconst 1, 1) := by decide +kernel
theorem dX0_takeBack_68 : decode cX0_takeBack 68 = .ok (.goto 4, 3) := by decide +kernel
theorem dX0_takeBack_71 : decode cX0_takeBack 71 = .ok (.iconst 0, 1) := by decide +kernel
theorem dX0_takeBack_72 : decode cX0_takeBack 72 = .ok (.istore_n 2, 1) := by decide +kernel
theorem dX0_takeBack_73 : decode cX0_takeBack 73 = .ok (.aload_n 0, 1) := by decide +kernel
theorem dX0_takeBack_74 : decode cX0_takeBack 74 = .ok (.getfield 15, 3) := by decide +kernel
theorem dX0_takeBack_77 : decode cX0_takeBack 77 = .ok (.iload_n 3, 1) := by decide +kernel
theorem dX0_takeBack_78 : decode cX0_takeBack 78 = .ok (.iload 5, 2) := by decide +kernel
theorem dX0_takeBack_80 : decode cX0_takeBack 80 = .ok (.iastore, 1) := by decide +kernel
theorem dX0_takeBack_81 : decode cX0_takeBack 81 = .ok (.aload_n 0, 1) := by decide +kernel
theorem dX0_takeBack_82 : decode cX0_takeBack 82 = .ok (.getfield 19, 3) := by decide +kernel
theorem dX0_takeBack_85 : decode cX0_takeBack 85 = .ok (.iload_n 3, 1) := by decide +kernel
theorem dX0_takeBack_86 : decode cX0_takeBack 86 = .ok (.iload_n 1, 1) := by decide +kernel
theorem dX0_takeBack_87 : decode cX0_takeBack 87 = .ok (.iastore, 1) := by decide +kernel
theorem dX0_takeBack_88 : decode cX0_takeBack 88 = .ok (.aload_n 0, 1) := by decide +kernel
theorem dX0_takeBack_89 : decode cX0_takeBack 89 = .ok (.iload_n 1, 1) := by decide +kernel
theorem dX0_takeBack_90 : decode cX0_takeBack 90 = .ok (.iload_n 3, 1) := by decide +kernel
theorem dX0_takeBack_91 : decode cX0_takeBack 91 = .ok (.iconst 0, 1) := by decide +kernel
theorem dX0_takeBack_92 : decode cX0_takeBack 92 = .ok (.invokevirtual 43, 3) := by decide +kernel
theorem dX0_takeBack_95 : decode cX0_takeBack 95 = .ok (.iinc 3 1, 3) := by decide +kernel
theorem dX0_takeBack_98 : decode cX0_takeBack 98 = .ok (.goto (-94), 3) := by decide +kernel
theorem dX0_takeBack_101 : decode cX0_takeBack 101 = .ok (.iload_n 2, 1) := by decide +kernel
theorem dX0_takeBack_102 : decode cX0_takeBack 102 = .ok (.ireturn, 1) := by decide +kernel
theorem dX0_attempt_0 : decode cX0_attempt 0 = .ok (.iconst 0, 1) := by decide +kernel
theorem dX0_attempt_1 : decode cX0_attempt 1 = .ok (.istore_n 3, 1) := by decide +kernel
theorem dX0_attempt_2 : decode cX0_attempt 2 = .ok (.iload_n 3, 1) := by decide +kernel
theorem dX0_attempt_3 : decode cX0_attempt 3 = .ok (.bipush 8, 2) := by decide +kernel
theorem dX0_attempt_5 : decode cX0_attempt 5 = .ok (.if_icmp .ge 33, 3) := by decide +kernel
theorem dX0_attempt_8 : decode cX0_attempt 8 = .ok (.aload_n 0, 1) := by decide +kernel
theorem dX0_attempt_9 : decode cX0_attempt 9 = .ok (.getfield 25, 3) := by decide +kernel
theorem dX0_attempt_12 : decode cX0_attempt 12 = .ok (.iload_n 3, 1) := by decide +kernel
theorem dX0_attempt_13 : decode cX0_attempt 13 = .ok (.aload_n 0, 1) := by decide +kernel
theorem dX0_attempt_14 : decode cX0_attempt 14 = .ok (.getfield 15, 3) := by decide +kernel
theorem dX0_attempt_17 : decode cX0_attempt 17 = .ok (.iload_n 3, 1) := by decide +kernel
theorem dX0_attempt_18 : decode cX0_attempt 18 = .ok (.iaload, 1) := by decide +kernel
theorem dX0_attempt_19 : decode cX0_attempt 19 = .ok (.iastore, 1) := by decide +kernel
theorem dX0_attempt_20 : decode cX0_attempt 20 = .ok (.aload_n 0, 1) := by decide +kernel
theorem dX0_attempt_21 : decode cX0_attempt 21 = .ok (.getfield 28, 3) := by decide +kernel
theorem dX0_attempt_24 : decode cX0_attempt 24 = .ok (.iload_n 3, 1) := by decide +kernel
theorem dX0_attempt_25 : decode cX0_attempt 25 = .ok (.aload_n 0, 1) := by decide +kernel
theorem dX0_attempt_26 : decode cX0_attempt 26 = .ok (.iload_n 2, 1) := by decide +kernel
theorem dX0_attempt_27 : decode cX0_attempt 27 = .ok (.iload_n 3, 1) := by decide +kernel
theorem dX0_attempt_28 : decode cX0_attempt 28 = .ok (.invokevirtual 47, 3) := by decide +kernel
theorem dX0_attempt_31 : decode cX0_attempt 31 = .ok (.iastore, 1) := by decide +kernel
theorem dX0_attempt_32 : decode cX0_attempt 32 = .ok (.iinc 3 1, 3) := by decide +kernel
theorem dX0_attempt_35 : decode cX0_attempt 35 = .ok (.goto (-33), 3) := by decide +kernel
theorem dX0_attempt_38 : decode cX0_attempt 38 = .ok (.iconst 0, 1) := by decide +kernel
theorem dX0_attempt_39 : decode cX0_attempt 39 = .ok (.istore_n 3, 1) := by decide +kernel
theorem dX0_attempt_40 : decode cX0_attempt 40 = .ok (.iload_n 3, 1) := by decide +kernel
theorem dX0_attempt_41 : decode cX0_attempt 41 = .ok (.aload_n 1, 1) := by decide +kernel
theorem dX0_attempt_42 : decode cX0_attempt 42 = .ok (.getfield 59, 3) := by decide +kernel
theorem dX0_attempt_45 : decode cX0_attempt 45 = .ok (.if_icmp .ge 57, 3) := by decide +kernel
theorem dX0_attempt_48 : decode cX0_attempt 48 = .ok (.iload_n 3, 1) := by decide +kernel
theorem dX0_attempt_49 : decode cX0_attempt 49 = .ok (.bipush 8, 2) := by decide +kernel
theorem dX0_attempt_51 : decode cX0_attempt 51 = .ok (.if_icmp .ge 51, 3) := by decide +kernel
theorem dX0_attempt_54 : decode cX0_attempt 54 = .ok (.aload_n 0, 1) := by decide +kernel
theorem dX0_attempt_55 : decode cX0_attempt 55 = .ok (.aload_n 1, 1) := by decide +kernel
theorem dX0_attempt_56 : decode cX0_attempt 56 = .ok (.getfield 62, 3) := by decide +kernel
theorem dX0_attempt_59 : decode cX0_attempt 59 = .ok (.iload_n 3, 1) := by decide +kernel
theorem dX0_attempt_60 : decode cX0_attempt 60 = .ok (.iaload, 1) := by decide +kernel
theorem dX0_attempt_61 : decode cX0_attempt 61 = .ok (.aload_n 1, 1) := by decide +kernel
theorem dX0_attempt_62 : decode cX0_attempt 62 = .ok (.getfield 65, 3) := by decide +kernel
theorem dX0_attempt_65 : decode cX0_attempt 65 = .ok (.iload_n 3, 1) := by decide +kernel
theorem dX0_attempt_66 : decode cX0_attempt 66 = .ok (.iaload, 1) := by decide +kernel
theorem dX0_attempt_67 : decode cX0_attempt 67 = .ok (.aload_n 1, 1) := by decide +kernel
theorem dX0_attempt_68 : decode cX0_attempt 68 = .ok (.iload_n 3, 1) := by decide +kernel
theorem dX0_attempt_69 : decode cX0_attempt 69 = .ok (.invokevirtual 68, 3) := by decide +kernel
theorem dX0_attempt_72 : decode cX0_attempt 72 = .ok (.invokevirtual 71, 3) := by decide +kernel
theorem dX0_attempt_75 : decode cX0_attempt 75 = .ok (.istore 4, 2) := by decide +kernel
theorem dX0_attempt_77 : decode cX0_attempt 77 = .ok (.iload 4, 2) := by decide +kernel
theorem dX0_attempt_79 : decode cX0_attempt 79 = .ok (.iconst 1, 1) := by decide +kernel
theorem dX0_attempt_80 : decode cX0_attempt 80 = .ok (.if_icmp .ne 8, 3) := by decide +kernel
theorem dX0_attempt_83 : decode cX0_attempt 83 = .ok (.aload_n 1, 1) := by decide +kernel
theorem dX0_attempt_84 : decode cX0_attempt 84 = .ok (.iload_n 3, 1) := by decide +kernel
theorem dX0_attempt_85 : decode cX0_attempt 85 = .ok (.putfield 75, 3) := by decide +kernel
theorem dX0_attempt_88 : decode cX0_attempt 88 = .ok (.iload 4, 2) := by decide +kernel
theorem dX0_attempt_90 : decode cX0_attempt 90 = .ok (.ifCond .eq 6, 3) := by decide +kernel
theorem dX0_attempt_93 : decode cX0_attempt 93 = .ok (.iload 4, 2) := by decide +kernel
theorem dX0_attempt_95 : decode cX0_attempt 95 = .ok (.ireturn, 1) := by decide +kernel
theorem dX0_attempt_96 : decode cX0_attempt 96 = .ok (.iinc 3 1, 3) := by decide +kernel
theorem dX0_attempt_99 : decode cX0_attempt 99 = .ok (.goto (-59), 3) := by decide +kernel
theorem dX0_attempt_102 : decode cX0_attempt 102 = .ok (.aload_n 0, 1) := by decide +kernel
theorem dX0_attempt_103 : decode cX0_attempt 103 = .ok (.aload_n 1, 1) := by decide +kernel
theorem dX0_attempt_104 : decode cX0_attempt 104 = .ok (.iload_n 2, 1) := by decide +kernel
theorem dX0_attempt_105 : decode cX0_attempt 105 = .ok (.invokevirtual 78, 3) := by decide +kernel
theorem dX0_attempt_108 : decode cX0_attempt 108 = .ok (.iconst 0, 1) := by decide +kernel
theorem dX0_attempt_109 : decode cX0_attempt 109 = .ok (.ireturn, 1) := by decide +kernel
theorem dX0_attemptOne_0 : decode cX0_attemptOne 0 = .ok (.aload_n 0, 1) := by decide +kernel
theorem dX0_attemptOne_1 : decode cX0_attemptOne 1 = .ok (.iload_n 1, 1) := by decide +kernel
theorem dX0_attemptOne_2 : decode cX0_attemptOne 2 = .ok (.invokevirtual 35, 3) := by decide +kernel
theorem dX0_attemptOne_5 : decode cX0_attemptOne 5 = .ok (.ifCond .ne 6, 3) := by decide +kernel
theorem dX0_attemptOne_8 : decode cX0_attemptOne 8 = .ok (.bipush (-15), 2) := by decide +kernel
theorem dX0_attemptOne_10 : decode cX0_attemptOne 10 = .ok (.ireturn, 1) := by decide +kernel
theorem dX0_attemptOne_11 : decode cX0_attemptOne 11 = .ok (.aload_n 0, 1) := by decide +kernel
theorem dX0_attemptOne_12 : decode cX0_attemptOne 12 = .ok (.getfield 25, 3) := by decide +kernel
theorem dX0_attemptOne_15 : decode cX0_attemptOne 15 = .ok (.iload_n 1, 1) := by decide +kernel
theorem dX0_attemptOne_16 : decode cX0_attemptOne 16 = .ok (.iaload, 1) := by decide +kernel
theorem dX0_attemptOne_17 : decode cX0_attemptOne 17 = .ok (.iload_n 2, 1) := by decide +kernel
theorem dX0_attemptOne_18 : decode cX0_attemptOne 18 = .ok (.iadd, 1) := by decide +kernel
theorem dX0_attemptOne_19 : decode cX0_attemptOne 19 = .ok (.istore 4, 2) := by decide +kernel
theorem dX0_attemptOne_21 : decode cX0_attemptOne 21 = .ok (.iload 4, 2) := by decide +kernel
theorem dX0_attemptOne_23 : decode cX0_attemptOne 23 = .ok (.ifCond .lt 12, 3) := by decide +kernel
theorem dX0_attemptOne_26 : decode cX0_attemptOne 26 = .ok (.iload_n 2, 1) := by decide +kernel
theorem dX0_attemptOne_27 : decode cX0_attemptOne 27 = .ok (.ifCond .ne 10, 3) := by decide +kernel
theorem dX0_attemptOne_30 : decode cX0_attemptOne 30 = .ok (.iload 4, 2) := by decide +kernel
theorem dX0_attemptOne_32 : decode cX0_attemptOne 32 = .ok (.ifCond .eq 5, 3) := by decide +kernel
theorem dX0_attemptOne_35 : decode cX0_attemptOne 35 = .ok (.iconst 1, 1) := by decide +kernel
theorem dX0_attemptOne_36 : decode cX0_attemptOne 36 = .ok (.ireturn, 1) := by decide +kernel
theorem dX0_attemptOne_37 : decode cX0_attemptOne 37 = .ok (.iload 4, 2) := by decide +kernel
theorem dX0_attemptOne_39 : decode cX0_attemptOne 39 = .ok (.sipush 32767, 3) := by decide +kernel
theorem dX0_attemptOne_42 : decode cX0_attemptOne 42 = .ok (.if_icmp .le 6, 3) := by decide +kernel
theorem dX0_attemptOne_45 : decode cX0_attemptOne 45 = .ok (.bipush (-15), 2) := by decide +kernel
theorem dX0_attemptOne_47 : decode cX0_attemptOne 47 = .ok (.ireturn, 1) := by decide +kernel
theorem dX0_attemptOne_48 : decode cX0_attemptOne 48 = .ok (.iload_n 3, 1) := by decide +kernel
theorem dX0_attemptOne_49 : decode cX0_attemptOne 49 = .ok (.ifCond .eq 40, 3) := by decide +kernel
theorem dX0_attemptOne_52 : decode cX0_attemptOne 52 = .ok (.aload_n 0, 1) := by decide +kernel
theorem dX0_attemptOne_53 : decode cX0_attemptOne 53 = .ok (.getfield 28, 3) := by decide +kernel
theorem dX0_attemptOne_56 : decode cX0_attemptOne 56 = .ok (.iload_n 1, 1) := by decide +kernel
theorem dX0_attemptOne_57 : decode cX0_attemptOne 57 = .ok (.iaload, 1) := by decide +kernel
theorem dX0_attemptOne_58 : decode cX0_attemptOne 58 = .ok (.iload_n 2, 1) := by decide +kernel
theorem dX0_attemptOne_59 : decode cX0_attemptOne 59 = .ok (.isub, 1) := by decide +kernel
theorem dX0_attemptOne_60 : decode cX0_attemptOne 60 = .ok (.istore 5, 2) := by decide +kernel
theorem dX0_attemptOne_62 : decode cX0_attemptOne 62 = .ok (.iload 5, 2) := by decide +kernel
theorem dX0_attemptOne_64 : decode cX0_attemptOne 64 = .ok (.sipush (-32767), 3) := by decide +kernel
theorem dX0_attemptOne_67 : decode cX0_attemptOne 67 = .ok (.if_icmp .lt 11, 3) := by decide +kernel
theorem dX0_attemptOne_70 : decode cX0_attemptOne 70 = .ok (.iload 5, 2) := by decide +kernel
theorem dX0_attemptOne_72 : decode cX0_attemptOne 72 = .ok (.sipush 32767, 3) := by decide +kernel
theorem dX0_attemptOne_75 : decode cX0_attemptOne 75 = .ok (.if_icmp .le 6, 3) := by decide +kernel
theorem dX0_attemptOne_78 : decode cX0_attemptOne 78 = .ok (.bipush (-15), 2) := by decide +kernel
theorem dX0_attemptOne_80 : decode cX0_attemptOne 80 = .ok (.ireturn, 1) := by decide +kernel
theorem dX0_attemptOne_81 : decode cX0_attemptOne 81 = .ok (.aload_n 0, 1) := by decide +kernel
theorem dX0_attemptOne_82 : decode cX0_attemptOne 82 = .ok (.getfield 28, 3) := by decide +kernel
theorem dX0_attemptOne_85 : decode cX0_attemptOne 85 = .ok (.iload_n 1, 1) := by decide +kernel
theorem dX0_attemptOne_86 : decode cX0_attemptOne 86 = .ok (.iload 5, 2) := by decide +kernel
theorem dX0_attemptOne_88 : decode cX0_attemptOne 88 = .ok (.iastore, 1) := by decide +kernel
theorem dX0_attemptOne_89 : decode cX0_attemptOne 89 = .ok (.aload_n 0, 1) := by decide +kernel
theorem dX0_attemptOne_90 : decode cX0_attemptOne 90 = .ok (.getfield 25, 3) := by decide +kernel
theorem dX0_attemptOne_93 : decode cX0_attemptOne 93 = .ok (.iload_n 1, 1) := by decide +kernel
theorem dX0_attemptOne_94 : decode cX0_attemptOne 94 = .ok (.iload 4, 2) := by decide +kernel
theorem dX0_attemptOne_96 : decode cX0_attemptOne 96 = .ok (.iastore, 1) := by decide +kernel
theorem dX0_attemptOne_97 : decode cX0_attemptOne 97 = .ok (.iconst 0, 1) := by decide +kernel
theorem dX0_attemptOne_98 : decode cX0_attemptOne 98 = .ok (.ireturn, 1) := by decide +kernel
theorem dX0_keep_0 : decode cX0_keep 0 = .ok (.aload_n 0, 1) := by decide +kernel
theorem dX0_keep_1 : decode cX0_keep 1 = .ok (.iconst 0, 1) := by decide +kernel
theorem dX0_keep_2 : decode cX0_keep 2 = .ok (.putfield 31, 3) := by decide +kernel
theorem dX0_keep_5 : decode cX0_keep 5 = .ok (.iconst 0, 1) := by decide +kernel
theorem dX0_keep_6 : decode cX0_keep 6 = .ok (.istore_n 3, 1) := by decide +kernel
theorem dX0_keep_7 : decode cX0_keep 7 = .ok (.iload_n 3, 1) := by decide +kernel
theorem dX0_keep_8 : decode cX0_keep 8 = .ok (.aload_n 0, 1) := by decide +kernel
theorem dX0_keep_9 : decode cX0_keep 9 = .ok (.getfield 9, 3) := by decide +kernel
theorem dX0_keep_12 : decode cX0_keep 12 = .ok (.if_icmp .ge 70, 3) := by decide +kernel
theorem dX0_keep_15 : decode cX0_keep 15 = .ok (.iload_n 3, 1) := by decide +kernel
theorem dX0_keep_16 : decode cX0_keep 16 = .ok (.bipush 8, 2) := by decide +kernel
theorem dX0_keep_18 : decode cX0_keep 18 = .ok (.if_icmp .ge 64, 3) := by decide +kernel
theorem dX0_keep_21 : decode cX0_keep 21 = .ok (.aload_n 0, 1) := by decide +kernel
theorem dX0_keep_22 : decode cX0_keep 22 = .ok (.aload_n 0, 1) := by decide +kernel
theorem dX0_keep_23 : decode cX0_keep 23 = .ok (.getfield 31, 3) := by decide +kernel
theorem dX0_keep_26 : decode cX0_keep 26 = .ok (.ifCond .ne 18, 3) := by decide +kernel
theorem dX0_keep_29 : decode cX0_keep 29 = .ok (.aload_n 0, 1) := by decide +kernel
theorem dX0_keep_30 : decode cX0_keep 30 = .ok (.getfield 15, 3) := by decide +kernel
theorem dX0_keep_33 : decode cX0_keep 33 = .ok (.iload_n 3, 1) := by decide +kernel
theorem dX0_keep_34 : decode cX0_keep 34 = .ok (.iaload, 1) := by decide +kernel
theorem dX0_keep_35 : decode cX0_keep 35 = .ok (.aload_n 0, 1) := by decide +kernel
theorem dX0_keep_36 : decode cX0_keep 36 = .ok (.getfield 25, 3) := by decide +kernel
theorem dX0_keep_39 : decode cX0_keep 39 = .ok (.iload_n 3, 1) := by decide +kernel
theorem dX0_keep_40 : decode cX0_keep 40 = .ok (.iaload, 1) := by decide +kernel
theorem dX0_keep_41 : decode cX0_keep 41 = .ok (.if_icmp .eq 7, 3) := by decide +kernel
theorem dX0_keep_44 : decode cX0_keep 44 = .ok (.iconst 1, 1) := by decide +kernel
theorem dX0_keep_45 : decode cX0_keep 45 = .ok (.goto 4, 3) := by decide +kernel
theorem dX0_keep_48 : decode cX0_keep 48 = .ok (.iconst 0, 1) := by decide +kernel
theorem dX0_keep_49 : decode cX0_keep 49 = .ok (.putfield 31, 3) := by decide +kernel
theorem dX0_keep_52 : decode cX0_keep 52 = .ok (.aload_n 0, 1) := by decide +kernel
theorem dX0_keep_53 : decode cX0_keep 53 = .ok (.getfield 15, 3) := by decide +kernel
theorem dX0_keep_56 : decode cX0_keep 56 = .ok (.iload_n 3, 1) := by decide +kernel
theorem dX0_keep_57 : decode cX0_keep 57 = .ok (.aload_n 0, 1) := by decide +kernel
theorem dX0_keep_58 : decode cX0_keep 58 = .ok (.getfield 25, 3) := by decide +kernel
theorem dX0_keep_61 : decode cX0_keep 61 = .ok (.iload_n 3, 1) := by decide +kernel
theorem dX0_keep_62 : decode cX0_keep 62 = .ok (.iaload, 1) := by decide +kernel
theorem dX0_keep_63 : decode cX0_keep 63 = .ok (.iastore, 1) := by decide +kernel
theorem dX0_keep_64 : decode cX0_keep 64 = .ok (.aload_n 0, 1) := by decide +kernel
theorem dX0_keep_65 : decode cX0_keep 65 = .ok (.iload_n 2, 1) := by decide +kernel
theorem dX0_keep_66 : decode cX0_keep 66 = .ok (.iload_n 3, 1) := by decide +kernel
theorem dX0_keep_67 : decode cX0_keep 67 = .ok (.aload_n 0, 1) := by decide +kernel
theorem dX0_keep_68 : decode cX0_keep 68 = .ok (.getfield 28, 3) := by decide +kernel
theorem dX0_keep_71 : decode cX0_keep 71 = .ok (.iload_n 3, 1) := by decide +kernel
theorem dX0_keep_72 : decode cX0_keep 72 = .ok (.iaload, 1) := by decide +kernel
theorem dX0_keep_73 : decode cX0_keep 73 = .ok (.invokevirtual 43, 3) := by decide +kernel
theorem dX0_keep_76 : decode cX0_keep 76 = .ok (.iinc 3 1, 3) := by decide +kernel
theorem dX0_keep_79 : decode cX0_keep 79 = .ok (.goto (-72), 3) := by decide +kernel
theorem dX0_keep_82 : decode cX0_keep 82 = .ok (.iconst 0, 1) := by decide +kernel
theorem dX0_keep_83 : decode cX0_keep 83 = .ok (.istore_n 3, 1) := by decide +kernel
theorem dX0_keep_84 : decode cX0_keep 84 = .ok (.iload_n 3, 1) := by decide +kernel
theorem dX0_keep_85 : decode cX0_keep 85 = .ok (.aload_n 1, 1) := by decide +kernel
theorem dX0_keep_86 : decode cX0_keep 86 = .ok (.getfield 59, 3) := by decide +kernel
theorem dX0_keep_89 : decode cX0_keep 89 = .ok (.if_icmp .ge 40, 3) := by decide +kernel
theorem dX0_keep_92 : decode cX0_keep 92 = .ok (.iload_n 3, 1) := by decide +kernel
theorem dX0_keep_93 : decode cX0_keep 93 = .ok (.bipush 8, 2) := by decide +kernel
theorem dX0_keep_95 : decode cX0_keep 95 = .ok (.if_icmp .ge 34, 3) := by decide +kernel
theorem dX0_keep_98 : decode cX0_keep 98 = .ok (.aload_n 1, 1) := by decide +kernel
theorem dX0_keep_99 : decode cX0_keep 99 = .ok (.getfield 62, 3) := by decide +kernel
theorem dX0_keep_102 : decode cX0_keep 102 = .ok (.iload_n 3, 1) := by decide +kernel
theorem dX0_keep_103 : decode cX0_keep 103 = .ok (.iaload, 1) := by decide +kernel
theorem dX0_keep_104 : decode cX0_keep 104 = .ok (.istore 4, 2) := by decide +kernel
theorem dX0_keep_106 : decode cX0_keep 106 = .ok (.aload_n 0, 1) := by decide +kernel
theorem dX0_keep_107 : decode cX0_keep 107 = .ok (.iload 4, 2) := by decide +kernel
theorem dX0_keep_109 : decode cX0_keep 109 = .ok (.invokevirtual 35, 3) := by decide +kernel
theorem dX0_keep_112 : decode cX0_keep 112 = .ok (.ifCond .eq 11, 3) := by decide +kernel
theorem dX0_keep_115 : decode cX0_keep 115 = .ok (.aload_n 0, 1) := by decide +kernel
theorem dX0_keep_116 : decode cX0_keep 116 = .ok (.getfield 19, 3) := by decide +kernel
theorem dX0_keep_119 : decode cX0_keep 119 = .ok (.iload 4, 2) := by decide +kernel
theorem dX0_keep_121 : decode cX0_keep 121 = .ok (.iload_n 2, 1) := by decide +kernel
theorem dX0_keep_122 : decode cX0_keep 122 = .ok (.iastore, 1) := by decide +kernel
theorem dX0_keep_123 : decode cX0_keep 123 = .ok (.iinc 3 1, 3) := by decide +kernel
theorem dX0_keep_126 : decode cX0_keep 126 = .ok (.goto (-42), 3) := by decide +kernel
theorem dX0_keep_129 : decode cX0_keep 129 = .ok (.return_, 1) := by decide +kernel
theorem dX1_init_0 : decode cX1_init 0 = .ok (.aload_n 0, 1) := by decide +kernel
theorem dX1_init_1 : decode cX1_init 1 = .ok (.invokespecial 3, 3) := by decide +kernel
theorem dX1_init_4 : decode cX1_init 4 = .ok (.aload_n 0, 1) := by decide +kernel
theorem dX1_init_5 : decode cX1_init 5 = .ok (.lconst 0, 1) := by decide +kernel
theorem dX1_init_6 : decode cX1_init 6 = .ok (.putfield 9, 3) := by decide +kernel
theorem dX1_init_9 : decode cX1_init 9 = .ok (.aload_n 0, 1) := by decide +kernel
theorem dX1_init_10 : decode cX1_init 10 = .ok (.iconst 0, 1) := by decide +kernel
theorem dX1_init_11 : decode cX1_init 11 = .ok (.putfield 15, 3) := by decide +kernel
theorem dX1_init_14 : decode cX1_init 14 = .ok (.aload_n 0, 1) := by decide +kernel
theorem dX1_init_15 : decode cX1_init 15 = .ok (.bipush 64, 2) := by decide +kernel
theorem dX1_init_17 : decode cX1_init 17 = .ok (.newarray .int, 2) := by decide +kernel
theorem dX1_init_19 : decode cX1_init 19 = .ok (.putfield 19, 3) := by decide +kernel
theorem dX1_init_22 : decode cX1_init 22 = .ok (.return_, 1) := by decide +kernel
theorem dX1_fill_0 : decode cX1_fill 0 = .ok (.aload_n 0, 1) := by decide +kernel
theorem dX1_fill_1 : decode cX1_fill 1 = .ok (.lload_n 1, 1) := by decide +kernel
theorem dX1_fill_2 : decode cX1_fill 2 = .ok (.putfield 9, 3) := by decide +kernel
theorem dX1_fill_5 : decode cX1_fill 5 = .ok (.aload_n 0, 1) := by decide +kernel
theorem dX1_fill_6 : decode cX1_fill 6 = .ok (.iload_n 3, 1) := by decide +kernel
theorem dX1_fill_7 : decode cX1_fill 7 = .ok (.putfield 15, 3) := by decide +kernel
theorem dX1_fill_10 : decode cX1_fill 10 = .ok (.iconst 0, 1) := by decide +kernel
theorem dX1_fill_11 : decode cX1_fill 11 = .ok (.istore 5, 2) := by decide +kernel
theorem dX1_fill_13 : decode cX1_fill 13 = .ok (.iload 5, 2) := by decide +kernel
theorem dX1_fill_15 : decode cX1_fill 15 = .ok (.iload_n 3, 1) := by decide +kernel
theorem dX1_fill_16 : decode cX1_fill 16 = .ok (.if_icmp .ge 36, 3) := by decide +kernel
theorem dX1_fill_19 : decode cX1_fill 19 = .ok (.iload 5, 2) := by decide +kernel
theorem dX1_fill_21 : decode cX1_fill 21 = .ok (.bipush 64, 2) := by decide +kernel
theorem dX1_fill_23 : decode cX1_fill 23 = .ok (.if_icmp .ge 29, 3) := by decide +kernel
theorem dX1_fill_26 : decode cX1_fill 26 = .ok (.iload 5, 2) := by decide +kernel
theorem dX1_fill_28 : decode cX1_fill 28 = .ok (.aload 4, 2) := by decide +kernel
theorem dX1_fill_30 : decode cX1_fill 30 = .ok (.arraylength, 1) := by decide +kernel
theorem dX1_fill_31 : decode cX1_fill 31 = .ok (.if_icmp .ge 21, 3) := by decide +kernel
theorem dX1_fill_34 : decode cX1_fill 34 = .ok (.aload_n 0, 1) := by decide +kernel
theorem dX1_fill_35 : decode cX1_fill 35 = .ok (.getfield 19, 3) := by decide +kernel
theorem dX1_fill_38 : decode cX1_fill 38 = .ok (.iload 5, 2) := by decide +kernel
theorem dX1_fill_40 : decode cX1_fill 40 = .ok (.aload 4, 2) := by decide +kernel
theorem dX1_fill_42 : decode cX1_fill 42 = .ok (.iload 5, 2) := by decide +kernel
theorem dX1_fill_44 : decode cX1_fill 44 = .ok (.iaload, 1) := by decide +kernel
theorem dX1_fill_45 : decode cX1_fill 45 = .ok (.iastore, 1) := by decide +kernel
theorem dX1_fill_46 : decode cX1_fill 46 = .ok (.iinc 5 1, 3) := by decide +kernel
theorem dX1_fill_49 : decode cX1_fill 49 = .ok (.goto (-36), 3) := by decide +kernel
theorem dX1_fill_52 : decode cX1_fill 52 = .ok (.return_, 1) := by decide +kernel
theorem dX1_byteAt_0 : decode cX1_byteAt 0 = .ok (.iload_n 1, 1) := by decide +kernel
theorem dX1_byteAt_1 : decode cX1_byteAt 1 = .ok (.ifCond .lt 26, 3) := by decide +kernel
theorem dX1_byteAt_4 : decode cX1_byteAt 4 = .ok (.iload_n 1, 1) := by decide +kernel
theorem dX1_byteAt_5 : decode cX1_byteAt 5 = .ok (.aload_n 0, 1) := by decide +kernel
theorem dX1_byteAt_6 : decode cX1_byteAt 6 = .ok (.getfield 15, 3) := by decide +kernel
theorem dX1_byteAt_9 : decode cX1_byteAt 9 = .ok (.if_icmp .ge 18, 3) := by decide +kernel
theorem dX1_byteAt_12 : decode cX1_byteAt 12 = .ok (.iload_n 1, 1) := by decide +kernel
theorem dX1_byteAt_13 : decode cX1_byteAt 13 = .ok (.bipush 64, 2) := by decide +kernel
theorem dX1_byteAt_15 : decode cX1_byteAt 15 = .ok (.if_icmp .ge 12, 3) := by decide +kernel
theorem dX1_byteAt_18 : decode cX1_byteAt 18 = .ok (.aload_n 0, 1) := by decide +kernel
theorem dX1_byteAt_19 : decode cX1_byteAt 19 = .ok (.getfield 19, 3) := by decide +kernel
theorem dX1_byteAt_22 : decode cX1_byteAt 22 = .ok (.iload_n 1, 1) := by decide +kernel
theorem dX1_byteAt_23 : decode cX1_byteAt 23 = .ok (.iaload, 1) := by decide +kernel
theorem dX1_byteAt_24 : decode cX1_byteAt 24 = .ok (.goto 4, 3) := by decide +kernel
theorem dX1_byteAt_27 : decode cX1_byteAt 27 = .ok (.iconst (-1), 1) := by decide +kernel
theorem dX1_byteAt_28 : decode cX1_byteAt 28 = .ok (.ireturn, 1) := by decide +kernel
theorem dX2_init_0 : decode cX2_init 0 = .ok (.aload_n 0, 1) := by decide +kernel
theorem dX2_init_1 : decode cX2_init 1 = .ok (.invokespecial 3, 3) := by decide +kernel
theorem dX2_init_4 : decode cX2_init 4 = .ok (.aload_n 0, 1) := by decide +kernel
theorem dX2_init_5 : decode cX2_init 5 = .ok (.bipush 64, 2) := by decide +kernel
theorem dX2_init_7 : decode cX2_init 7 = .ok (.newarray .int, 2) := by decide +kernel
theorem dX2_init_9 : decode cX2_init 9 = .ok (.putfield 9, 3) := by decide +kernel
theorem dX2_init_12 : decode cX2_init 12 = .ok (.aload_n 0, 1) := by decide +kernel
theorem dX2_init_13 : decode cX2_init 13 = .ok (.new 15, 3) := by decide +kernel
theorem dX2_init_16 : decode cX2_init 16 = .ok (.dup, 1) := by decide +kernel
theorem dX2_init_17 : decode cX2_init 17 = .ok (.invokespecial 17, 3) := by decide +kernel
theorem dX2_init_20 : decode cX2_init 20 = .ok (.putfield 18, 3) := by decide +kernel
theorem dX2_init_23 : decode cX2_init 23 = .ok (.aload_n 0, 1) := by decide +kernel
theorem dX2_init_24 : decode cX2_init 24 = .ok (.new 22, 3) := by decide +kernel
theorem dX2_init_27 : decode cX2_init 27 = .ok (.dup, 1) := by decide +kernel
theorem dX2_init_28 : decode cX2_init 28 = .ok (.invokespecial 24, 3) := by decide +kernel
theorem dX2_init_31 : decode cX2_init 31 = .ok (.putfield 25, 3) := by decide +kernel
theorem dX2_init_34 : decode cX2_init 34 = .ok (.aload_n 0, 1) := by decide +kernel
theorem dX2_init_35 : decode cX2_init 35 = .ok (.new 29, 3) := by decide +kernel
theorem dX2_init_38 : decode cX2_init 38 = .ok (.dup, 1) := by decide +kernel
theorem dX2_init_39 : decode cX2_init 39 = .ok (.invokespecial 31, 3) := by decide +kernel
theorem dX2_init_42 : decode cX2_init 42 = .ok (.putfield 32, 3) := by decide +kernel
theorem dX2_init_45 : decode cX2_init 45 = .ok (.aload_n 0, 1) := by decide +kernel
theorem dX2_init_46 : decode cX2_init 46 = .ok (.iconst 1, 1) := by decide +kernel
theorem dX2_init_47 : decode cX2_init 47 = .ok (.putfield 36, 3) := by decide +kernel
theorem dX2_init_50 : decode cX2_init 50 = .ok (.aload_n 0, 1) := by decide +kernel
theorem dX2_init_51 : decode cX2_init 51 = .ok (.iconst 0, 1) := by decide +kernel
theorem dX2_init_52 : decode cX2_init 52 = .ok (.putfield 40, 3) := by decide +kernel
theorem dX2_init_55 : decode cX2_init 55 = .ok (.aload_n 0, 1) := by decide +kernel
theorem dX2_init_56 : decode cX2_init 56 = .ok (.lconst 0, 1) := by decide +kernel
theorem dX2_init_57 : decode cX2_init 57 = .ok (.putfield 44, 3) := by decide +kernel
theorem dX2_init_60 : decode cX2_init 60 = .ok (.aload_n 0, 1) := by decide +kernel
theorem dX2_init_61 : decode cX2_init 61 = .ok (.iconst 0, 1) := by decide +kernel
theorem dX2_init_62 : decode cX2_init 62 = .ok (.putfield 48, 3) := by decide +kernel
theorem dX2_init_65 : decode cX2_init 65 = .ok (.aload_n 0, 1) := by decide +kernel
theorem dX2_init_66 : decode cX2_init 66 = .ok (.aconst_null, 1) := by decide +kernel
theorem dX2_init_67 : decode cX2_init 67 = .ok (.putfield 51, 3) := by decide +kernel
theorem dX2_init_70 : decode cX2_init 70 = .ok (.aload_n 0, 1) := by decide +kernel
theorem dX2_init_71 : decode cX2_init 71 = .ok (.iload_n 1, 1) := by decide +kernel
theorem dX2_init_72 : decode cX2_init 72 = .ok (.putfield 55, 3) := by decide +kernel
theorem dX2_init_75 : decode cX2_init 75 = .ok (.aload_n 0, 1) := by decide +kernel
theorem dX2_init_76 : decode cX2_init 76 = .ok (.iload_n 2, 1) := by decide +kernel
theorem dX2_init_77 : decode cX2_init 77 = .ok (.putfield 58, 3) := by decide +kernel
theorem dX2_init_80 : decode cX2_init 80 = .ok (.aload_n 0, 1) := by decide +kernel
theorem dX2_init_81 : decode cX2_init 81 = .ok (.iload_n 3, 1) := by decide +kernel
theorem dX2_init_82 : decode cX2_init 82 = .ok (.putfield 61, 3) := by decide +kernel
theorem dX2_init_85 : decode cX2_init 85 = .ok (.return_, 1) := by decide +kernel
theorem dX2_isFree_0 : decode cX2_isFree 0 = .ok (.aload_n 0, 1) := by decide +kernel
theorem dX2_isFree_1 : decode cX2_isFree 1 = .ok (.getfield 36, 3) := by decide +kernel
theorem dX2_isFree_4 : decode cX2_isFree 4 = .ok (.ifCond .eq 14, 3) := by decide +kernel
theorem dX2_isFree_7 : decode cX2_isFree 7 = .ok (.aload_n 0, 1) := by decide +kernel
theorem dX2_isFree_8 : decode cX2_isFree 8 = .ok (.getfield 48, 3) := by decide +kernel
theorem dX2_isFree_11 : decode cX2_isFree 11 = .ok (.ifCond .ne 7, 3) := by decide +kernel
theorem dX2_isFree_14 : decode cX2_isFree 14 = .ok (.iconst 1, 1) := by decide +kernel
theorem dX2_isFree_15 : decode cX2_isFree 15 = .ok (.goto 4, 3) := by decide +kernel
theorem dX2_isFree_18 : decode cX2_isFree 18 = .ok (.iconst 0, 1) := by decide +kernel
theorem dX2_isFree_19 : decode cX2_isFree 19 = .ok (.ireturn, 1) := by decide +kernel
theorem dX2_waitsTo_0 : decode cX2_waitsTo 0 = .ok (.aload_n 0, 1) := by decide +kernel
theorem dX2_waitsTo_1 : decode cX2_waitsTo 1 = .ok (.getfield 48, 3) := by decide +kernel
theorem dX2_waitsTo_4 : decode cX2_waitsTo 4 = .ok (.iload_n 1, 1) := by decide +kernel
theorem dX2_waitsTo_5 : decode cX2_waitsTo 5 = .ok (.if_icmp .ne 15, 3) := by decide +kernel
theorem dX2_waitsTo_8 : decode cX2_waitsTo 8 = .ok (.aload_n 0, 1) := by decide +kernel
theorem dX2_waitsTo_9 : decode cX2_waitsTo 9 = .ok (.getfield 51, 3) := by decide +kernel
theorem dX2_waitsTo_12 : decode cX2_waitsTo 12 = .ok (.aload_n 2, 1) := by decide +kernel
theorem dX2_waitsTo_13 : decode cX2_waitsTo 13 = .ok (.if_acmp .ne 7, 3) := by decide +kernel
theorem dX2_waitsTo_16 : decode cX2_waitsTo 16 = .ok (.iconst 1, 1) := by decide +kernel
theorem dX2_waitsTo_17 : decode cX2_waitsTo 17 = .ok (.goto 4, 3) := by decide +kernel
theorem dX2_waitsTo_20 : decode cX2_waitsTo 20 = .ok (.iconst 0, 1) := by decide +kernel
theorem dX2_waitsTo_21 : decode cX2_waitsTo 21 = .ok (.ireturn, 1) := by decide +kernel
theorem dX2_told_0 : decode cX2_told 0 = .ok (.aload_n 0, 1) := by decide +kernel
theorem dX2_told_1 : decode cX2_told 1 = .ok (.iload_n 1, 1) := by decide +kernel
theorem dX2_told_2 : decode cX2_told 2 = .ok (.putfield 40, 3) := by decide +kernel
theorem dX2_told_5 : decode cX2_told 5 = .ok (.iload_n 1, 1) := by decide +kernel
theorem dX2_told_6 : decode cX2_told 6 = .ok (.ireturn, 1) := by decide +kernel
theorem dX2_receive_0 : decode cX2_receive 0 = .ok (.aload_n 0, 1) := by decide +kernel
theorem dX2_receive_1 : decode cX2_receive 1 = .ok (.getfield 25, 3) := by decide +kernel
theorem dX2_receive_4 : decode cX2_receive 4 = .ok (.getfield 64, 3) := by decide +kernel
theorem dX2_receive_7 : decode cX2_receive 7 = .ok (.aload_n 1, 1) := by decide +kernel
theorem dX2_receive_8 : decode cX2_receive 8 = .ok (.getfield 67, 3) := by decide +kernel
theorem dX2_receive_11 : decode cX2_receive 11 = .ok (.invokestatic 70, 3) := by decide +kernel
theorem dX2_receive_14 : decode cX2_receive 14 = .ok (.istore_n 2, 1) := by decide +kernel
theorem dX2_receive_15 : decode cX2_receive 15 = .ok (.iconst 0, 1) := by decide +kernel
theorem dX2_receive_16 : decode cX2_receive 16 = .ok (.istore_n 3, 1) := by decide +kernel
theorem dX2_receive_17 : decode cX2_receive 17 = .ok (.iload_n 3, 1) := by decide +kernel
theorem dX2_receive_18 : decode cX2_receive 18 = .ok (.iload_n 2, 1) := by decide +kernel
theorem dX2_receive_19 : decode cX2_receive 19 = .ok (.if_icmp .ge 27, 3) := by decide +kernel
theorem dX2_receive_22 : decode cX2_receive 22 = .ok (.iload_n 3, 1) := by decide +kernel
theorem dX2_receive_23 : decode cX2_receive 23 = .ok (.bipush 64, 2) := by decide +kernel
theorem dX2_receive_25 : decode cX2_receive 25 = .ok (.if_icmp .ge 21, 3) := by decide +kernel
theorem dX2_receive_28 : decode cX2_receive 28 = .ok (.aload_n 0, 1) := by decide +kernel
theorem dX2_receive_29 : decode cX2_receive 29 = .ok (.getfield 9, 3) := by decide +kernel
theorem dX2_receive_32 : decode cX2_receive 32 = .ok (.iload_n 3, 1) := by decide +kernel
theorem dX2_receive_33 : decode cX2_receive 33 = .ok (.aload_n 1, 1) := by decide +kernel
theorem dX2_receive_34 : decode cX2_receive 34 = .ok (.getfield 76, 3) := by decide +kernel
theorem dX2_receive_37 : decode cX2_receive 37 = .ok (.iload_n 3, 1) := by decide +kernel
theorem dX2_receive_38 : decode cX2_receive 38 = .ok (.iaload, 1) := by decide +kernel
theorem dX2_receive_39 : decode cX2_receive 39 = .ok (.iastore, 1) := by decide +kernel
theorem dX2_receive_40 : decode cX2_receive 40 = .ok (.iinc 3 1, 3) := by decide +kernel
theorem dX2_receive_43 : decode cX2_receive 43 = .ok (.goto (-26), 3) := by decide +kernel
theorem dX2_receive_46 : decode cX2_receive 46 = .ok (.aload_n 0, 1) := by decide +kernel
theorem dX2_receive_47 : decode cX2_receive 47 = .ok (.aload_n 1, 1) := by decide +kernel
theorem dX2_receive_48 : decode cX2_receive 48 = .ok (.getfield 78, 3) := by decide +kernel
theorem dX2_receive_51 : decode cX2_receive 51 = .ok (.putfield 44, 3) := by decide +kernel
theorem dX2_receive_54 : decode cX2_receive 54 = .ok (.iload_n 2, 1) := by decide +kernel
theorem dX2_receive_55 : decode cX2_receive 55 = .ok (.ireturn, 1) := by decide +kernel
theorem dX3_init_0 : decode cX3_init 0 = .ok (.aload_n 0, 1) := by decide +kernel
theorem dX3_init_1 : decode cX3_init 1 = .ok (.iload_n 1, 1) := by decide +kernel
theorem dX3_init_2 : decode cX3_init 2 = .ok (.invokespecial 3, 3) := by decide +kernel
theorem dX3_init_5 : decode cX3_init 5 = .ok (.aload_n 0, 1) := by decide +kernel
theorem dX3_init_6 : decode cX3_init 6 = .ok (.bipush 40, 2) := by decide +kernel
theorem dX3_init_8 : decode cX3_init 8 = .ok (.anewarray 9, 3) := by decide +kernel
theorem dX3_init_11 : decode cX3_init 11 = .ok (.putfield 11, 3) := by decide +kernel
theorem dX3_init_14 : decode cX3_init 14 = .ok (.aload_n 0, 1) := by decide +kernel
theorem dX3_init_15 : decode cX3_init 15 = .ok (.iconst 0, 1) := by decide +kernel
theorem dX3_init_16 : decode cX3_init 16 = .ok (.putfield 17, 3) := by decide +kernel
theorem dX3_init_19 : decode cX3_init 19 = .ok (.aload_n 0, 1) := by decide +kernel
theorem dX3_init_20 : decode cX3_init 20 = .ok (.iconst 0, 1) := by decide +kernel
theorem dX3_init_21 : decode cX3_init 21 = .ok (.putfield 21, 3) := by decide +kernel
theorem dX3_init_24 : decode cX3_init 24 = .ok (.aload_n 0, 1) := by decide +kernel
theorem dX3_init_25 : decode cX3_init 25 = .ok (.sipush 256, 3) := by decide +kernel
theorem dX3_init_28 : decode cX3_init 28 = .ok (.putfield 24, 3) := by decide +kernel
theorem dX3_init_31 : decode cX3_init 31 = .ok (.return_, 1) := by decide +kernel
theorem dX3_empty_0 : decode cX3_empty 0 = .ok (.aload_n 0, 1) := by decide +kernel
theorem dX3_empty_1 : decode cX3_empty 1 = .ok (.iconst 0, 1) := by decide +kernel
theorem dX3_empty_2 : decode cX3_empty 2 = .ok (.putfield 17, 3) := by decide +kernel
theorem dX3_empty_5 : decode cX3_empty 5 = .ok (.aload_n 0, 1) := by decide +kernel
theorem dX3_empty_6 : decode cX3_empty 6 = .ok (.iconst 0, 1) := by decide +kernel
theorem dX3_empty_7 : decode cX3_empty 7 = .ok (.putfield 21, 3) := by decide +kernel
theorem dX3_empty_10 : decode cX3_empty 10 = .ok (.aload_n 0, 1) := by decide +kernel
theorem dX3_empty_11 : decode cX3_empty 11 = .ok (.sipush 256, 3) := by decide +kernel
theorem dX3_empty_14 : decode cX3_empty 14 = .ok (.putfield 24, 3) := by decide +kernel
theorem dX3_empty_17 : decode cX3_empty 17 = .ok (.return_, 1) := by decide +kernel
theorem dX3_hasRoomFor_0 : decode cX3_hasRoomFor 0 = .ok (.aload_n 0, 1) := by decide +kernel
theorem dX3_hasRoomFor_1 : decode cX3_hasRoomFor 1 = .ok (.getfield 21, 3) := by decide +kernel
theorem dX3_hasRoomFor_4 : decode cX3_hasRoomFor 4 = .ok (.iload_n 1, 1) := by decide +kernel
theorem dX3_hasRoomFor_5 : decode cX3_hasRoomFor 5 = .ok (.iadd, 1) := by decide +kernel
theorem dX3_hasRoomFor_6 : decode cX3_hasRoomFor 6 = .ok (.aload_n 0, 1) := by decide +kernel
theorem dX3_hasRoomFor_7 : decode cX3_hasRoomFor 7 = .ok (.getfield 24, 3) := by decide +kernel
theorem dX3_hasRoomFor_10 : decode cX3_hasRoomFor 10 = .ok (.if_icmp .gt 16, 3) := by decide +kernel
theorem dX3_hasRoomFor_13 : decode cX3_hasRoomFor 13 = .ok (.aload_n 0, 1) := by decide +kernel
theorem dX3_hasRoomFor_14 : decode cX3_hasRoomFor 14 = .ok (.getfield 17, 3) := by decide +kernel
theorem dX3_hasRoomFor_17 : decode cX3_hasRoomFor 17 = .ok (.bipush 40, 2) := by decide +kernel
theorem dX3_hasRoomFor_19 : decode cX3_hasRoomFor 19 = .ok (.if_icmp .ge 7, 3) := by decide +kernel
theorem dX3_hasRoomFor_22 : decode cX3_hasRoomFor 22 = .ok (.iconst 1, 1) := by decide +kernel
theorem dX3_hasRoomFor_23 : decode cX3_hasRoomFor 23 = .ok (.goto 4, 3) := by decide +kernel
theorem dX3_hasRoomFor_26 : decode cX3_hasRoomFor 26 = .ok (.iconst 0, 1) := by decide +kernel
theorem dX3_hasRoomFor_27 : decode cX3_hasRoomFor 27 = .ok (.ireturn, 1) := by decide +kernel
theorem dX3_messageAt_0 : decode cX3_messageAt 0 = .ok (.iload_n 1, 1) := by decide +kernel
theorem dX3_messageAt_1 : decode cX3_messageAt 1 = .ok (.ifCond .lt 26, 3) := by decide +kernel
theorem dX3_messageAt_4 : decode cX3_messageAt 4 = .ok (.iload_n 1, 1) := by decide +kernel
theorem dX3_messageAt_5 : decode cX3_messageAt 5 = .ok (.aload_n 0, 1) := by decide +kernel
theorem dX3_messageAt_6 : decode cX3_messageAt 6 = .ok (.getfield 17, 3) := by decide +kernel
theorem dX3_messageAt_9 : decode cX3_messageAt 9 = .ok (.if_icmp .ge 18, 3) := by decide +kernel
theorem dX3_messageAt_12 : decode cX3_messageAt 12 = .ok (.iload_n 1, 1) := by decide +kernel
theorem dX3_messageAt_13 : decode cX3_messageAt 13 = .ok (.bipush 40, 2) := by decide +kernel
theorem dX3_messageAt_15 : decode cX3_messageAt 15 = .ok (.if_icmp .ge 12, 3) := by decide +kernel
theorem dX3_messageAt_18 : decode cX3_messageAt 18 = .ok (.aload_n 0, 1) := by decide +kernel
theorem dX3_messageAt_19 : decode cX3_messageAt 19 = .ok (.getfield 11, 3) := by decide +kernel
theorem dX3_messageAt_22 : decode cX3_messageAt 22 = .ok (.iload_n 1, 1) := by decide +kernel
theorem dX3_messageAt_23 : decode cX3_messageAt 23 = .ok (.aaload, 1) := by decide +kernel
theorem dX3_messageAt_24 : decode cX3_messageAt 24 = .ok (.goto 4, 3) := by decide +kernel
theorem dX3_messageAt_27 : decode cX3_messageAt 27 = .ok (.aconst_null, 1) := by decide +kernel
theorem dX3_messageAt_28 : decode cX3_messageAt 28 = .ok (.areturn, 1) := by decide +kernel
theorem dX3_append_0 : decode cX3_append 0 = .ok (.aload_n 0, 1) := by decide +kernel
theorem dX3_append_1 : decode cX3_append 1 = .ok (.getfield 17, 3) := by decide +kernel
theorem dX3_append_4 : decode cX3_append 4 = .ok (.bipush 40, 2) := by decide +kernel
theorem dX3_append_6 : decode cX3_append 6 = .ok (.if_icmp .lt 4, 3) := by decide +kernel
theorem dX3_append_9 : decode cX3_append 9 = .ok (.return_, 1) := by decide +kernel
theorem dX3_append_10 : decode cX3_append 10 = .ok (.aload_n 0, 1) := by decide +kernel
theorem dX3_append_11 : decode cX3_append 11 = .ok (.getfield 11, 3) := by decide +kernel
theorem dX3_append_14 : decode cX3_append 14 = .ok (.aload_n 0, 1) := by decide +kernel
theorem dX3_append_15 : decode cX3_append 15 = .ok (.getfield 17, 3) := by decide +kernel
theorem dX3_append_18 : decode cX3_append 18 = .ok (.aaload, 1) := by decide +kernel
theorem dX3_append_19 : decode cX3_append 19 = .ok (.ifnonnull 13, 3) := by decide +kernel
theorem dX3_append_22 : decode cX3_append 22 = .ok (.new 9, 3) := by decide +kernel
theorem dX3_append_25 : decode cX3_append 25 = .ok (.dup, 1) := by decide +kernel
theorem dX3_append_26 : decode cX3_append 26 = .ok (.invokespecial 27, 3) := by decide +kernel
theorem dX3_append_29 : decode cX3_append 29 = .ok (.goto 12, 3) := by decide +kernel
theorem dX3_append_32 : decode cX3_append 32 = .ok (.aload_n 0, 1) := by decide +kernel
theorem dX3_append_33 : decode cX3_append 33 = .ok (.getfield 11, 3) := by decide +kernel
theorem dX3_append_36 : decode cX3_append 36 = .ok (.aload_n 0, 1) := by decide +kernel
theorem dX3_append_37 : decode cX3_append 37 = .ok (.getfield 17, 3) := by decide +kernel
theorem dX3_append_40 : decode cX3_append 40 = .ok (.aaload, 1) := by decide +kernel
theorem dX3_append_41 : decode cX3_append 41 = .ok (.astore_n 2, 1) := by decide +kernel
theorem dX3_append_42 : decode cX3_append 42 = .ok (.aload_n 2, 1) := by decide +kernel
theorem dX3_append_43 : decode cX3_append 43 = .ok (.aload_n 1, 1) := by decide +kernel
theorem dX3_append_44 : decode cX3_append 44 = .ok (.getfield 30, 3) := by decide +kernel
theorem dX3_append_47 : decode cX3_append 47 = .ok (.aload_n 1, 1) := by decide +kernel
theorem dX3_append_48 : decode cX3_append 48 = .ok (.getfield 34, 3) := by decide +kernel
theorem dX3_append_51 : decode cX3_append 51 = .ok (.aload_n 1, 1) := by decide +kernel
theorem dX3_append_52 : decode cX3_append 52 = .ok (.getfield 37, 3) := by decide +kernel
theorem dX3_append_55 : decode cX3_append 55 = .ok (.invokevirtual 40, 3) := by decide +kernel
theorem dX3_append_58 : decode cX3_append 58 = .ok (.aload_n 0, 1) := by decide +kernel
theorem dX3_append_59 : decode cX3_append 59 = .ok (.getfield 11, 3) := by decide +kernel
theorem dX3_append_62 : decode cX3_append 62 = .ok (.aload_n 0, 1) := by decide +kernel
theorem dX3_append_63 : decode cX3_append 63 = .ok (.getfield 17, 3) := by decide +kernel
theorem dX3_append_66 : decode cX3_append 66 = .ok (.aload_n 2, 1) := by decide +kernel
theorem dX3_append_67 : decode cX3_append 67 = .ok (.aastore, 1) := by decide +kernel
theorem dX3_append_68 : decode cX3_append 68 = .ok (.aload_n 0, 1) := by decide +kernel
theorem dX3_append_69 : decode cX3_append 69 = .ok (.dup, 1) := by decide +kernel
theorem dX3_append_70 : decode cX3_append 70 = .ok (.getfield 17, 3) := by decide +kernel
theorem dX3_append_73 : decode cX3_append 73 = .ok (.iconst 1, 1) := by decide +kernel
theorem dX3_append_74 : decode cX3_append 74 = .ok (.iadd, 1) := by decide +kernel
theorem dX3_append_75 : decode cX3_append 75 = .ok (.putfield 17, 3) := by decide +kernel
theorem dX3_append_78 : decode cX3_append 78 = .ok (.aload_n 0, 1) := by decide +kernel
theorem dX3_append_79 : decode cX3_append 79 = .ok (.dup, 1) := by decide +kernel
theorem dX3_append_80 : decode cX3_append 80 = .ok (.getfield 21, 3) := by decide +kernel
theorem dX3_append_83 : decode cX3_append 83 = .ok (.aload_n 1, 1) := by decide +kernel
theorem dX3_append_84 : decode cX3_append 84 = .ok (.getfield 34, 3) := by decide +kernel
theorem dX3_append_87 : decode cX3_append 87 = .ok (.iadd, 1) := by decide +kernel
theorem dX3_append_88 : decode cX3_append 88 = .ok (.putfield 21, 3) := by decide +kernel
theorem dX3_append_91 : decode cX3_append 91 = .ok (.return_, 1) := by decide +kernel
theorem dX3_drop_0 : decode cX3_drop 0 = .ok (.aload_n 0, 1) := by decide +kernel
theorem dX3_drop_1 : decode cX3_drop 1 = .ok (.iload_n 1, 1) := by decide +kernel
theorem dX3_drop_2 : decode cX3_drop 2 = .ok (.invokevirtual 44, 3) := by decide +kernel
theorem dX3_drop_5 : decode cX3_drop 5 = .ok (.astore_n 2, 1) := by decide +kernel
theorem dX3_drop_6 : decode cX3_drop 6 = .ok (.aload_n 2, 1) := by decide +kernel
theorem dX3_drop_7 : decode cX3_drop 7 = .ok (.ifnonnull 4, 3) := by decide +kernel
theorem dX3_drop_10 : decode cX3_drop 10 = .ok (.return_, 1) := by decide +kernel
theorem dX3_drop_11 : decode cX3_drop 11 = .ok (.aload_n 0, 1) := by decide +kernel
theorem dX3_drop_12 : decode cX3_drop 12 = .ok (.getfield 17, 3) := by decide +kernel
theorem dX3_drop_15 : decode cX3_drop 15 = .ok (.bipush 40, 2) := by decide +kernel
theorem dX3_drop_17 : decode cX3_drop 17 = .ok (.invokestatic 48, 3) := by decide +kernel
theorem dX3_drop_20 : decode cX3_drop 20 = .ok (.iconst 1, 1) := by decide +kernel
theorem dX3_drop_21 : decode cX3_drop 21 = .ok (.isub, 1) := by decide +kernel
theorem dX3_drop_22 : decode cX3_drop 22 = .ok (.istore_n 3, 1) := by decide +kernel
theorem dX3_drop_23 : decode cX3_drop 23 = .ok (.iload_n 1, 1) := by decide +kernel
theorem dX3_drop_24 : decode cX3_drop 24 = .ok (.istore 4, 2) := by decide +kernel
theorem dX3_drop_26 : decode cX3_drop 26 = .ok (.iload 4, 2) := by decide +kernel
theorem dX3_drop_28 : decode cX3_drop 28 = .ok (.iload_n 3, 1) := by decide +kernel
theorem dX3_drop_29 : decode cX3_drop 29 = .ok (.if_icmp .ge 25, 3) := by decide +kernel
theorem dX3_drop_32 : decode cX3_drop 32 = .ok (.aload_n 0, 1) := by decide +kernel
theorem dX3_drop_33 : decode cX3_drop 33 = .ok (.getfield 11, 3) := by decide +kernel
theorem dX3_drop_36 : decode cX3_drop 36 = .ok (.iload 4, 2) := by decide +kernel
theorem dX3_drop_38 : decode cX3_drop 38 = .ok (.aload_n 0, 1) := by decide +kernel
theorem dX3_drop_39 : decode cX3_drop 39 = .ok (.getfield 11, 3) := by decide +kernel
theorem dX3_drop_42 : decode cX3_drop 42 = .ok (.iload 4, 2) := by decide +kernel
theorem dX3_drop_44 : decode cX3_drop 44 = .ok (.iconst 1, 1) := by decide +kernel
theorem dX3_drop_45 : decode cX3_drop 45 = .ok (.iadd, 1) := by decide +kernel
theorem dX3_drop_46 : decode cX3_drop 46 = .ok (.aaload, 1) := by decide +kernel
theorem dX3_drop_47 : decode cX3_drop 47 = .ok (.aastore, 1) := by decide +kernel
theorem dX3_drop_48 : decode cX3_drop 48 = .ok (.iinc 4 1, 3) := by decide +kernel
theorem dX3_drop_51 : decode cX3_drop 51 = .ok (.goto (-25), 3) := by decide +kernel
theorem dX3_drop_54 : decode cX3_drop 54 = .ok (.aload_n 0, 1) := by decide +kernel
theorem dX3_drop_55 : decode cX3_drop 55 = .ok (.getfield 11, 3) := by decide +kernel
theorem dX3_drop_58 : decode cX3_drop 58 = .ok (.iload_n 3, 1) := by decide +kernel
theorem dX3_drop_59 : decode cX3_drop 59 = .ok (.aload_n 2, 1) := by decide +kernel
theorem dX3_drop_60 : decode cX3_drop 60 = .ok (.aastore, 1) := by decide +kernel
theorem dX3_drop_61 : decode cX3_drop 61 = .ok (.aload_n 0, 1) := by decide +kernel
theorem dX3_drop_62 : decode cX3_drop 62 = .ok (.iload_n 3, 1) := by decide +kernel
theorem dX3_drop_63 : decode cX3_drop 63 = .ok (.putfield 17, 3) := by decide +kernel
theorem dX3_drop_66 : decode cX3_drop 66 = .ok (.aload_n 0, 1) := by decide +kernel
theorem dX3_drop_67 : decode cX3_drop 67 = .ok (.dup, 1) := by decide +kernel
theorem dX3_drop_68 : decode cX3_drop 68 = .ok (.getfield 21, 3) := by decide +kernel
theorem dX3_drop_71 : decode cX3_drop 71 = .ok (.aload_n 2, 1) := by decide +kernel
theorem dX3_drop_72 : decode cX3_drop 72 = .ok (.getfield 34, 3) := by decide +kernel
theorem dX3_drop_75 : decode cX3_drop 75 = .ok (.isub, 1) := by decide +kernel
theorem dX3_drop_76 : decode cX3_drop 76 = .ok (.putfield 21, 3) := by decide +kernel
theorem dX3_drop_79 : decode cX3_drop 79 = .ok (.return_, 1) := by decide +kernel
theorem dX3_placeOfWanted_0 : decode cX3_placeOfWanted 0 = .ok (.iconst (-1), 1) := by decide +kernel
theorem dX3_placeOfWanted_1 : decode cX3_placeOfWanted 1 = .ok (.istore_n 2, 1) := by decide +kernel
theorem dX3_placeOfWanted_2 : decode cX3_placeOfWanted 2 = .ok (.lconst 0, 1) := by decide +kernel
theorem dX3_placeOfWanted_3 : decode cX3_placeOfWanted 3 = .ok (.lstore_n 3, 1) := by decide +kernel
theorem dX3_placeOfWanted_4 : decode cX3_placeOfWanted 4 = .ok (.iconst 0, 1) := by decide +kernel
theorem dX3_placeOfWanted_5 : decode cX3_placeOfWanted 5 = .ok (.istore 5, 2) := by decide +kernel
theorem dX3_placeOfWanted_7 : decode cX3_placeOfWanted 7 = .ok (.iload 5, 2) := by decide +kernel
theorem dX3_placeOfWanted_9 : decode cX3_placeOfWanted 9 = .ok (.aload_n 0, 1) := by decide +kernel
theorem dX3_placeOfWanted_10 : decode cX3_placeOfWanted 10 = .ok (.getfield 17, 3) := by decide +kernel
theorem dX3_placeOfWanted_13 : decode cX3_placeOfWanted 13 = .ok (.if_icmp .ge 79, 3) := by decide +kernel
theorem dX3_placeOfWanted_16 : decode cX3_placeOfWanted 16 = .ok (.aload_n 0, 1) := by decide +kernel
theorem dX3_placeOfWanted_17 : decode cX3_placeOfWanted 17 = .ok (.iload 5, 2) := by decide +kernel
theorem dX3_placeOfWanted_19 : decode cX3_placeOfWanted 19 = .ok (.invokevirtual 44, 3) := by decide +kernel
theorem dX3_placeOfWanted_22 : decode cX3_placeOfWanted 22 = .ok (.astore 6, 2) := by decide +kernel
theorem dX3_placeOfWanted_24 : decode cX3_placeOfWanted 24 = .ok (.aload 6, 2) := by decide +kernel
theorem dX3_placeOfWanted_26 : decode cX3_placeOfWanted 26 = .ok (.ifnull 19, 3) := by decide +kernel
theorem dX3_placeOfWanted_29 : decode cX3_placeOfWanted 29 = .ok (.aload_n 1, 1) := by decide +kernel
theorem dX3_placeOfWanted_30 : decode cX3_placeOfWanted 30 = .ok (.aload 6, 2) := by decide +kernel
theorem dX3_placeOfWanted_32 : decode cX3_placeOfWanted 32 = .ok (.getfield 30, 3) := by decide +kernel
theorem dX3_placeOfWanted_35 : decode cX3_placeOfWanted 35 = .ok (.invokevirtual 54, 3) := by decide +kernel
theorem dX3_placeOfWanted_38 : decode cX3_placeOfWanted 38 = .ok (.ifCond .eq 7, 3) := by decide +kernel
theorem dX3_placeOfWanted_41 : decode cX3_placeOfWanted 41 = .ok (.iconst 1, 1) := by decide +kernel
theorem dX3_placeOfWanted_42 : decode cX3_placeOfWanted 42 = .ok (.goto 4, 3) := by decide +kernel
theorem dX3_placeOfWanted_45 : decode cX3_placeOfWanted 45 = .ok (.iconst 0, 1) := by decide +kernel
theorem dX3_placeOfWanted_46 : decode cX3_placeOfWanted 46 = .ok (.istore 7, 2) := by decide +kernel
theorem dX3_placeOfWanted_48 : decode cX3_placeOfWanted 48 = .ok (.iload 7, 2) := by decide +kernel
theorem dX3_placeOfWanted_50 : decode cX3_placeOfWanted 50 = .ok (.ifCond .eq 36, 3) := by decide +kernel
theorem dX3_placeOfWanted_53 : decode cX3_placeOfWanted 53 = .ok (.iload_n 2, 1) := by decide +kernel
theorem dX3_placeOfWanted_54 : decode cX3_placeOfWanted 54 = .ok (.iconst (-1), 1) := by decide +kernel
theorem dX3_placeOfWanted_55 : decode cX3_placeOfWanted 55 = .ok (.if_icmp .eq 22, 3) := by decide +kernel
theorem dX3_placeOfWanted_58 : decode cX3_placeOfWanted 58 = .ok (.aload_n 1, 1) := by decide +kernel
theorem dX3_placeOfWanted_59 : decode cX3_placeOfWanted 59 = .ok (.getfield 60, 3) := by decide +kernel
theorem dX3_placeOfWanted_62 : decode cX3_placeOfWanted 62 = .ok (.lconst 0, 1) := by decide +kernel
theorem dX3_placeOfWanted_63 : decode cX3_placeOfWanted 63 = .ok (.lcmp, 1) := by decide +kernel
theorem dX3_placeOfWanted_64 : decode cX3_placeOfWanted 64 = .ok (.ifCond .ge 22, 3) := by decide +kernel
theorem dX3_placeOfWanted_67 : decode cX3_placeOfWanted 67 = .ok (.aload 6, 2) := by decide +kernel
theorem dX3_placeOfWanted_69 : decode cX3_placeOfWanted 69 = .ok (.getfield 30, 3) := by decide +kernel
theorem dX3_placeOfWanted_72 : decode cX3_placeOfWanted 72 = .ok (.lload_n 3, 1) := by decide +kernel
theorem dX3_placeOfWanted_73 : decode cX3_placeOfWanted 73 = .ok (.lcmp, 1) := by decide +kernel
theorem dX3_placeOfWanted_74 : decode cX3_placeOfWanted 74 = .ok (.ifCond .ge 12, 3) := by decide +kernel
theorem dX3_placeOfWanted_77 : decode cX3_placeOfWanted 77 = .ok (.iload 5, 2) := by decide +kernel
theorem dX3_placeOfWanted_79 : decode cX3_placeOfWanted 79 = .ok (.istore_n 2, 1) := by decide +kernel
theorem dX3_placeOfWanted_80 : decode cX3_placeOfWanted 80 = .ok (.aload 6, 2) := by decide +kernel
theorem dX3_placeOfWanted_82 : decode cX3_placeOfWanted 82 = .ok (.getfield 30, 3) := by decide +kernel
theorem dX3_placeOfWanted_85 : decode cX3_placeOfWanted 85 = .ok (.lstore_n 3, 1) := by decide +kernel
theorem dX3_placeOfWanted_86 : decode cX3_placeOfWanted 86 = .ok (.iinc 5 1, 3) := by decide +kernel
theorem dX3_placeOfWanted_89 : decode cX3_placeOfWanted 89 = .ok (.goto (-82), 3) := by decide +kernel
theorem dX3_placeOfWanted_92 : decode cX3_placeOfWanted 92 = .ok (.iload_n 2, 1) := by decide +kernel
theorem dX3_placeOfWanted_93 : decode cX3_placeOfWanted 93 = .ok (.ireturn, 1) := by decide +kernel
theorem dX4_init_0 : decode cX4_init 0 = .ok (.aload_n 0, 1) := by decide +kernel
theorem dX4_init_1 : decode cX4_init 1 = .ok (.invokespecial 3, 3) := by decide +kernel
theorem dX4_init_4 : decode cX4_init 4 = .ok (.aload_n 0, 1) := by decide +kernel
theorem dX4_init_5 : decode cX4_init 5 = .ok (.bipush 8, 2) := by decide +kernel
theorem dX4_init_7 : decode cX4_init 7 = .ok (.newarray .int, 2) := by decide +kernel
theorem dX4_init_9 : decode cX4_init 9 = .ok (.putfield 9, 3) := by decide +kernel
theorem dX4_init_12 : decode cX4_init 12 = .ok (.aload_n 0, 1) := by decide +kernel
theorem dX4_init_13 : decode cX4_init 13 = .ok (.bipush 8, 2) := by decide +kernel
theorem dX4_init_15 : decode cX4_init 15 = .ok (.newarray .int, 2) := by decide +kernel
theorem dX4_init_17 : decode cX4_init 17 = .ok (.putfield 15, 3) := by decide +kernel
theorem dX4_init_20 : decode cX4_init 20 = .ok (.aload_n 0, 1) := by decide +kernel
theorem dX4_init_21 : decode cX4_init 21 = .ok (.bipush 8, 2) := by decide +kernel
theorem dX4_init_23 : decode cX4_init 23 = .ok (.newarray .int, 2) := by decide +kernel
theorem dX4_init_25 : decode cX4_init 25 = .ok (.putfield 18, 3) := by decide +kernel
theorem dX4_init_28 : decode cX4_init 28 = .ok (.aload_n 0, 1) := by decide +kernel
theorem dX4_init_29 : decode cX4_init 29 = .ok (.iconst 0, 1) := by decide +kernel
theorem dX4_init_30 : decode cX4_init 30 = .ok (.putfield 21, 3) := by decide +kernel
theorem dX4_init_33 : decode cX4_init 33 = .ok (.aload_n 0, 1) := by decide +kernel
theorem dX4_init_34 : decode cX4_init 34 = .ok (.iconst 0, 1) := by decide +kernel
theorem dX4_init_35 : decode cX4_init 35 = .ok (.putfield 25, 3) := by decide +kernel
theorem dX4_init_38 : decode cX4_init 38 = .ok (.aload_n 0, 1) := by decide +kernel
theorem dX4_init_39 : decode cX4_init 39 = .ok (.iconst 0, 1) := by decide +kernel
theorem dX4_init_40 : decode cX4_init 40 = .ok (.putfield 28, 3) := by decide +kernel
theorem dX4_init_43 : decode cX4_init 43 = .ok (.return_, 1) := by decide +kernel
theorem dX4_add_0 : decode cX4_add 0 = .ok (.aload_n 0, 1) := by decide +kernel
theorem dX4_add_1 : decode cX4_add 1 = .ok (.getfield 21, 3) := by decide +kernel
theorem dX4_add_4 : decode cX4_add 4 = .ok (.bipush 8, 2) := by decide +kernel
theorem dX4_add_6 : decode cX4_add 6 = .ok (.if_icmp .lt 6, 3) := by decide +kernel
theorem dX4_add_9 : decode cX4_add 9 = .ok (.bipush (-9), 2) := by decide +kernel
theorem dX4_add_11 : decode cX4_add 11 = .ok (.ireturn, 1) := by decide +kernel
theorem dX4_add_12 : decode cX4_add 12 = .ok (.aload_n 0, 1) := by decide +kernel
theorem dX4_add_13 : decode cX4_add 13 = .ok (.getfield 9, 3) := by decide +kernel
theorem dX4_add_16 : decode cX4_add 16 = .ok (.aload_n 0, 1) := by decide +kernel
theorem dX4_add_17 : decode cX4_add 17 = .ok (.getfield 21, 3) := by decide +kernel
theorem dX4_add_20 : decode cX4_add 20 = .ok (.iload_n 1, 1) := by decide +kernel
theorem dX4_add_21 : decode cX4_add 21 = .ok (.iastore, 1) := by decide +kernel
theorem dX4_add_22 : decode cX4_add 22 = .ok (.aload_n 0, 1) := by decide +kernel
theorem dX4_add_23 : decode cX4_add 23 = .ok (.getfield 15, 3) := by decide +kernel
theorem dX4_add_26 : decode cX4_add 26 = .ok (.aload_n 0, 1) := by decide +kernel
theorem dX4_add_27 : decode cX4_add 27 = .ok (.getfield 21, 3) := by decide +kernel
theorem dX4_add_30 : decode cX4_add 30 = .ok (.iload_n 2, 1) := by decide +kernel
theorem dX4_add_31 : decode cX4_add 31 = .ok (.iastore, 1) := by decide +kernel
theorem dX4_add_32 : decode cX4_add 32 = .ok (.aload_n 0, 1) := by decide +kernel
theorem dX4_add_33 : decode cX4_add 33 = .ok (.getfield 18, 3) := by decide +kernel
theorem dX4_add_36 : decode cX4_add 36 = .ok (.aload_n 0, 1) := by decide +kernel
theorem dX4_add_37 : decode cX4_add 37 = .ok (.getfield 21, 3) := by decide +kernel
theorem dX4_add_40 : decode cX4_add 40 = .ok (.iload_n 3, 1) := by decide +kernel
theorem dX4_add_41 : decode cX4_add 41 = .ok (.iastore, 1) := by decide +kernel
theorem dX4_add_42 : decode cX4_add 42 = .ok (.aload_n 0, 1) := by decide +kernel
theorem dX4_add_43 : decode cX4_add 43 = .ok (.dup, 1) := by decide +kernel
theorem dX4_add_44 : decode cX4_add 44 = .ok (.getfield 21, 3) := by decide +kernel
theorem dX4_add_47 : decode cX4_add 47 = .ok (.iconst 1, 1) := by decide +kernel
theorem dX4_add_48 : decode cX4_add 48 = .ok (.iadd, 1) := by decide +kernel
theorem dX4_add_49 : decode cX4_add 49 = .ok (.putfield 21, 3) := by decide +kernel
theorem dX4_add_52 : decode cX4_add 52 = .ok (.aload_n 0, 1) := by decide +kernel
theorem dX4_add_53 : decode cX4_add 53 = .ok (.getfield 21, 3) := by decide +kernel
theorem dX4_add_56 : decode cX4_add 56 = .ok (.ireturn, 1) := by decide +kernel
theorem dX4_takeUp_0 : decode cX4_takeUp 0 = .ok (.aload_n 0, 1) := by decide +kernel
theorem dX4_takeUp_1 : decode cX4_takeUp 1 = .ok (.aload_n 0, 1) := by decide +kernel
theorem dX4_takeUp_2 : decode cX4_takeUp 2 = .ok (.getfield 21, 3) := by decide +kernel
theorem dX4_takeUp_5 : decode cX4_takeUp 5 = .ok (.putfield 25, 3) := by decide +kernel
theorem dX4_takeUp_8 : decode cX4_takeUp 8 = .ok (.aload_n 0, 1) := by decide +kernel
theorem dX4_takeUp_9 : decode cX4_takeUp 9 = .ok (.iconst 0, 1) := by decide +kernel
theorem dX4_takeUp_10 : decode cX4_takeUp 10 = .ok (.putfield 21, 3) := by decide +kernel
theorem dX4_takeUp_13 : decode cX4_takeUp 13 = .ok (.return_, 1) := by decide +kernel
theorem dX4_highestCounter_0 : decode cX4_highestCounter 0 = .ok (.iconst 0, 1) := by decide +kernel
theorem dX4_highestCounter_1 : decode cX4_highestCounter 1 = .ok (.istore_n 1, 1) := by decide +kernel
theorem dX4_highestCounter_2 : decode cX4_highestCounter 2 = .ok (.iconst 0, 1) := by decide +kernel
theorem dX4_highestCounter_3 : decode cX4_highestCounter 3 = .ok (.istore_n 2, 1) := by decide +kernel
theorem dX4_highestCounter_4 : decode cX4_highestCounter 4 = .ok (.iload_n 2, 1) := by decide +kernel
theorem dX4_highestCounter_5 : decode cX4_highestCounter 5 = .ok (.aload_n 0, 1) := by decide +kernel
theorem dX4_highestCounter_6 : decode cX4_highestCounter 6 = .ok (.getfield 25, 3) := by decide +kernel
theorem dX4_highestCounter_9 : decode cX4_highestCounter 9 = .ok (.if_icmp .ge 26, 3) := by decide +kernel
theorem dX4_highestCounter_12 : decode cX4_highestCounter 12 = .ok (.iload_n 2, 1) := by decide +kernel
theorem dX4_highestCounter_13 : decode cX4_highestCounter 13 = .ok (.bipush 8, 2) := by decide +kernel
theorem dX4_highestCounter_15 : decode cX4_highestCounter 15 = .ok (.if_icmp .ge 20, 3) := by decide +kernel
theorem dX4_highestCounter_18 : decode cX4_highestCounter 18 = .ok (.iload_n 1, 1) := by decide +kernel
theorem dX4_highestCounter_19 : decode cX4_highestCounter 19 = .ok (.aload_n 0, 1) := by decide +kernel
theorem dX4_highestCounter_20 : decode cX4_highestCounter 20 = .ok (.getfield 9, 3) := by decide +kernel
theorem dX4_highestCounter_23 : decode cX4_highestCounter 23 = .ok (.iload_n 2, 1) := by decide +kernel
theorem dX4_highestCounter_24 : decode cX4_highestCounter 24 = .ok (.iaload, 1) := by decide +kernel
theorem dX4_highestCounter_25 : decode cX4_highestCounter 25 = .ok (.invokestatic 31, 3) := by decide +kernel
theorem dX4_highestCounter_28 : decode cX4_highestCounter 28 = .ok (.istore_n 1, 1) := by decide +kernel
theorem dX4_highestCounter_29 : decode cX4_highestCounter 29 = .ok (.iinc 2 1, 3) := by decide +kernel
theorem dX4_highestCounter_32 : decode cX4_highestCounter 32 = .ok (.goto (-28), 3) := by decide +kernel
theorem dX4_highestCounter_35 : decode cX4_highestCounter 35 = .ok (.iload_n 1, 1) := by decide +kernel
theorem dX4_highestCounter_36 : decode cX4_highestCounter 36 = .ok (.ireturn, 1) := by decide +kernel
theorem dX4_haveChange_0 : decode cX4_haveChange 0 = .ok (.iconst 0, 1) := by decide +kernel
theorem dX4_haveChange_1 : decode cX4_haveChange 1 = .ok (.istore_n 1, 1) := by decide +kernel
theorem dX4_haveChange_2 : decode cX4_haveChange 2 = .ok (.iload_n 1, 1) := by decide +kernel
theorem dX4_haveChange_3 : decode cX4_haveChange 3 = .ok (.aload_n 0, 1) := by decide +kernel
theorem dX4_haveChange_4 : decode cX4_haveChange 4 = .ok (.getfield 25, 3) := by decide +kernel
theorem dX4_haveChange_7 : decode cX4_haveChange 7 = .ok (.if_icmp .ge 26, 3) := by decide +kernel
theorem dX4_haveChange_10 : decode cX4_haveChange 10 = .ok (.iload_n 1, 1) := by decide +kernel
theorem dX4_haveChange_11 : decode cX4_haveChange 11 = .ok (.bipush 8, 2) := by decide +kernel
theorem dX4_haveChange_13 : decode cX4_haveChange 13 = .ok (.if_icmp .ge 20, 3) := by decide +kernel
theorem dX4_haveChange_16 : decode cX4_haveChange 16 = .ok (.aload_n 0, 1) := by decide +kernel
theorem dX4_haveChange_17 : decode cX4_haveChange 17 = .ok (.getfield 15, 3) := by decide +kernel
theorem dX4_haveChange_20 : decode cX4_haveChange 20 = .ok (.iload_n 1, 1) := by decide +kernel
theorem dX4_haveChange_21 : decode cX4_haveChange 21 = .ok (.iaload, 1) := by decide +kernel
theorem dX4_haveChange_22 : decode cX4_haveChange 22 = .ok (.ifCond .eq 5, 3) := by decide +kernel
theorem dX4_haveChange_25 : decode cX4_haveChange 25 = .ok (.iconst 1, 1) := by decide +kernel
theorem dX4_haveChange_26 : decode cX4_haveChange 26 = .ok (.ireturn, 1) := by decide +kernel
theorem dX4_haveChange_27 : decode cX4_haveChange 27 = .ok (.iinc 1 1, 3) := by decide +kernel
theorem dX4_haveChange_30 : decode cX4_haveChange 30 = .ok (.goto (-28), 3) := by decide +kernel
theorem dX4_haveChange_33 : decode cX4_haveChange 33 = .ok (.iconst 0, 1) := by decide +kernel
theorem dX4_haveChange_34 : decode cX4_haveChange 34 = .ok (.ireturn, 1) := by decide +kernel
theorem dX4_isUndone_0 : decode cX4_isUndone 0 = .ok (.iload_n 1, 1) := by decide +kernel
theorem dX4_isUndone_1 : decode cX4_isUndone 1 = .ok (.bipush 7, 2) := by decide +kernel
theorem dX4_isUndone_3 : decode cX4_isUndone 3 = .ok (.invokestatic 37, 3) := by decide +kernel
theorem dX4_isUndone_6 : decode cX4_isUndone 6 = .ok (.ifCond .eq 18, 3) := by decide +kernel
theorem dX4_isUndone_9 : decode cX4_isUndone 9 = .ok (.aload_n 0, 1) := by decide +kernel
theorem dX4_isUndone_10 : decode cX4_isUndone 10 = .ok (.getfield 18, 3) := by decide +kernel
theorem dX4_isUndone_13 : decode cX4_isUndone 13 = .ok (.iload_n 1, 1) := by decide +kernel
theorem dX4_isUndone_14 : decode cX4_isUndone 14 = .ok (.iaload, 1) := by decide +kernel
theorem dX4_isUndone_15 : decode cX4_isUndone 15 = .ok (.iconst 2, 1) := by decide +kernel
theorem dX4_isUndone_16 : decode cX4_isUndone 16 = .ok (.iand, 1) := by decide +kernel
theorem dX4_isUndone_17 : decode cX4_isUndone 17 = .ok (.ifCond .eq 7, 3) := by decide +kernel
theorem dX4_isUndone_20 : decode cX4_isUndone 20 = .ok (.iconst 1, 1) := by decide +kernel
theorem dX4_isUndone_21 : decode cX4_isUndone 21 = .ok (.goto 4, 3) := by decide +kernel
theorem dX4_isUndone_24 : decode cX4_isUndone 24 = .ok (.iconst 0, 1) := by decide +kernel
theorem dX4_isUndone_25 : decode cX4_isUndone 25 = .ok (.ireturn, 1) := by decide +kernel
theorem dX4_stoppedNoWait_0 : decode cX4_stoppedNoWait 0 = .ok (.aload_n 0, 1) := by decide +kernel
theorem dX4_stoppedNoWait_1 : decode cX4_stoppedNoWait 1 = .ok (.getfield 28, 3) := by decide +kernel
theorem dX4_stoppedNoWait_4 : decode cX4_stoppedNoWait 4 = .ok (.bipush 7, 2) := by decide +kernel
theorem dX4_stoppedNoWait_6 : decode cX4_stoppedNoWait 6 = .ok (.invokestatic 37, 3) := by decide +kernel
theorem dX4_stoppedNoWait_9 : decode cX4_stoppedNoWait 9 = .ok (.ifCond .eq 21, 3) := by decide +kernel
theorem dX4_stoppedNoWait_12 : decode cX4_stoppedNoWait 12 = .ok (.aload_n 0, 1) := by decide +kernel
theorem dX4_stoppedNoWait_13 : decode cX4_stoppedNoWait 13 = .ok (.getfield 18, 3) := by decide +kernel
theorem dX4_stoppedNoWait_16 : decode cX4_stoppedNoWait 16 = .ok (.aload_n 0, 1) := by decide +kernel
theorem dX4_stoppedNoWait_17 : decode cX4_stoppedNoWait 17 = .ok (.getfield 28, 3) := by decide +kernel
theorem dX4_stoppedNoWait_20 : decode cX4_stoppedNoWait 20 = .ok (.iaload, 1) := by decide +kernel
theorem dX4_stoppedNoWait_21 : decode cX4_stoppedNoWait 21 = .ok (.iconst 1, 1) := by decide +kernel
theorem dX4_stoppedNoWait_22 : decode cX4_stoppedNoWait 22 = .ok (.iand, 1) := by decide +kernel
theorem dX4_stoppedNoWait_23 : decode cX4_stoppedNoWait 23 = .ok (.ifCond .eq 7, 3) := by decide +kernel
theorem dX4_stoppedNoWait_26 : decode cX4_stoppedNoWait 26 = .ok (.iconst 1, 1) := by decide +kernel
theorem dX4_stoppedNoWait_27 : decode cX4_stoppedNoWait 27 = .ok (.goto 4, 3) := by decide +kernel
theorem dX4_stoppedNoWait_30 : decode cX4_stoppedNoWait 30 = .ok (.iconst 0, 1) := by decide +kernel
theorem dX4_stoppedNoWait_31 : decode cX4_stoppedNoWait 31 = .ok (.ireturn, 1) := by decide +kernel
theorem dX4_isStoppedAt_0 : decode cX4_isStoppedAt 0 = .ok (.aload_n 0, 1) := by decide +kernel
theorem dX4_isStoppedAt_1 : decode cX4_isStoppedAt 1 = .ok (.getfield 28, 3) := by decide +kernel
theorem dX4_isStoppedAt_4 : decode cX4_isStoppedAt 4 = .ok (.bipush 7, 2) := by decide +kernel
theorem dX4_isStoppedAt_6 : decode cX4_isStoppedAt 6 = .ok (.invokestatic 37, 3) := by decide +kernel
theorem dX4_isStoppedAt_9 : decode cX4_isStoppedAt 9 = .ok (.ifCond .eq 41, 3) := by decide +kernel
theorem dX4_isStoppedAt_12 : decode cX4_isStoppedAt 12 = .ok (.aload_n 0, 1) := by decide +kernel
theorem dX4_isStoppedAt_13 : decode cX4_isStoppedAt 13 = .ok (.getfield 9, 3) := by decide +kernel
theorem dX4_isStoppedAt_16 : decode cX4_isStoppedAt 16 = .ok (.aload_n 0, 1) := by decide +kernel
theorem dX4_isStoppedAt_17 : decode cX4_isStoppedAt 17 = .ok (.getfield 28, 3) := by decide +kernel
theorem dX4_isStoppedAt_20 : decode cX4_isStoppedAt 20 = .ok (.iaload, 1) := by decide +kernel
theorem dX4_isStoppedAt_21 : decode cX4_isStoppedAt 21 = .ok (.iload_n 1, 1) := by decide +kernel
theorem dX4_isStoppedAt_22 : decode cX4_isStoppedAt 22 = .ok (.if_icmp .ne 28, 3) := by decide +kernel
theorem dX4_isStoppedAt_25 : decode cX4_isStoppedAt 25 = .ok (.aload_n 0, 1) := by decide +kernel
theorem dX4_isStoppedAt_26 : decode cX4_isStoppedAt 26 = .ok (.getfield 15, 3) := by decide +kernel
theorem dX4_isStoppedAt_29 : decode cX4_isStoppedAt 29 = .ok (.aload_n 0, 1) := by decide +kernel
theorem dX4_isStoppedAt_30 : decode cX4_isStoppedAt 30 = .ok (.getfield 28, 3) := by decide +kernel
theorem dX4_isStoppedAt_33 : decode cX4_isStoppedAt 33 = .ok (.iaload, 1) := by decide +kernel
theorem dX4_isStoppedAt_34 : decode cX4_isStoppedAt 34 = .ok (.ifCond .ne 7, 3) := by decide +kernel
theorem dX4_isStoppedAt_37 : decode cX4_isStoppedAt 37 = .ok (.iconst 1, 1) := by decide +kernel
theorem dX4_isStoppedAt_38 : decode cX4_isStoppedAt 38 = .ok (.goto 4, 3) := by decide +kernel
theorem dX4_isStoppedAt_41 : decode cX4_isStoppedAt 41 = .ok (.iconst 0, 1) := by decide +kernel
theorem dX4_isStoppedAt_42 : decode cX4_isStoppedAt 42 = .ok (.iload_n 2, 1) := by decide +kernel
theorem dX4_isStoppedAt_43 : decode cX4_isStoppedAt 43 = .ok (.if_icmp .ne 7, 3) := by decide +kernel
theorem dX4_isStoppedAt_46 : decode cX4_isStoppedAt 46 = .ok (.iconst 1, 1) := by decide +kernel
theorem dX4_isStoppedAt_47 : decode cX4_isStoppedAt 47 = .ok (.goto 4, 3) := by decide +kernel
theorem dX4_isStoppedAt_50 : decode cX4_isStoppedAt 50 = .ok (.iconst 0, 1) := by decide +kernel
theorem dX4_isStoppedAt_51 : decode cX4_isStoppedAt 51 = .ok (.ireturn, 1) := by decide +kernel
theorem dX5_init_0 : decode cX5_init 0 = .ok (.aload_n 0, 1) := by decide +kernel
theorem dX5_init_1 : decode cX5_init 1 = .ok (.invokespecial 3, 3) := by decide +kernel
theorem dX5_init_4 : decode cX5_init 4 = .ok (.aload_n 0, 1) := by decide +kernel
theorem dX5_init_5 : decode cX5_init 5 = .ok (.iconst 0, 1) := by decide +kernel
theorem dX5_init_6 : decode cX5_init 6 = .ok (.putfield 9, 3) := by decide +kernel
theorem dX5_init_9 : decode cX5_init 9 = .ok (.aload_n 0, 1) := by decide +kernel
theorem dX5_init_10 : decode cX5_init 10 = .ok (.iconst 0, 1) := by decide +kernel
theorem dX5_init_11 : decode cX5_init 11 = .ok (.putfield 15, 3) := by decide +kernel
theorem dX5_init_14 : decode cX5_init 14 = .ok (.aload_n 0, 1) := by decide +kernel
theorem dX5_init_15 : decode cX5_init 15 = .ok (.iconst 0, 1) := by decide +kernel
theorem dX5_init_16 : decode cX5_init 16 = .ok (.putfield 19, 3) := by decide +kernel
theorem dX5_init_19 : decode cX5_init 19 = .ok (.aload_n 0, 1) := by decide +kernel
theorem dX5_init_20 : decode cX5_init 20 = .ok (.iconst 0, 1) := by decide +kernel
theorem dX5_init_21 : decode cX5_init 21 = .ok (.putfield 22, 3) := by decide +kernel
theorem dX5_init_24 : decode cX5_init 24 = .ok (.aload_n 0, 1) := by decide +kernel
theorem dX5_init_25 : decode cX5_init 25 = .ok (.iconst 0, 1) := by decide +kernel
theorem dX5_init_26 : decode cX5_init 26 = .ok (.putfield 25, 3) := by decide +kernel
theorem dX5_init_29 : decode cX5_init 29 = .ok (.aload_n 0, 1) := by decide +kernel
theorem dX5_init_30 : decode cX5_init 30 = .ok (.iconst 0, 1) := by decide +kernel
theorem dX5_init_31 : decode cX5_init 31 = .ok (.putfield 28, 3) := by decide +kernel
theorem dX5_init_34 : decode cX5_init 34 = .ok (.aload_n 0, 1) := by decide +kernel
theorem dX5_init_35 : decode cX5_init 35 = .ok (.iconst 0, 1) := by decide +kernel
theorem dX5_init_36 : decode cX5_init 36 = .ok (.putfield 31, 3) := by decide +kernel
theorem dX5_init_39 : decode cX5_init 39 = .ok (.aload_n 0, 1) := by decide +kernel
theorem dX5_init_40 : decode cX5_init 40 = .ok (.iconst 0, 1) := by decide +kernel
theorem dX5_init_41 : decode cX5_init 41 = .ok (.putfield 34, 3) := by decide +kernel
theorem dX5_init_44 : decode cX5_init 44 = .ok (.aload_n 0, 1) := by decide +kernel
theorem dX5_init_45 : decode cX5_init 45 = .ok (.iconst 0, 1) := by decide +kernel
theorem dX5_init_46 : decode cX5_init 46 = .ok (.putfield 37, 3) := by decide +kernel
theorem dX5_init_49 : decode cX5_init 49 = .ok (.aload_n 0, 1) := by decide +kernel
theorem dX5_init_50 : decode cX5_init 50 = .ok (.iload_n 1, 1) := by decide +kernel
theorem dX5_init_51 : decode cX5_init 51 = .ok (.putfield 40, 3) := by decide +kernel
theorem dX5_init_54 : decode cX5_init 54 = .ok (.return_, 1) := by decide +kernel
theorem dX5_begin_0 : decode cX5_begin 0 = .ok (.aload_n 0, 1) := by decide +kernel
theorem dX5_begin_1 : decode cX5_begin 1 = .ok (.aload_n 0, 1) := by decide +kernel
theorem dX5_begin_2 : decode cX5_begin 2 = .ok (.getfield 40, 3) := by decide +kernel
theorem dX5_begin_5 : decode cX5_begin 5 = .ok (.bipush 12, 2) := by decide +kernel
theorem dX5_begin_7 : decode cX5_begin 7 = .ok (.aload_n 0, 1) := by decide +kernel
theorem dX5_begin_8 : decode cX5_begin 8 = .ok (.getfield 9, 3) := by decide +kernel
theorem dX5_begin_11 : decode cX5_begin 11 = .ok (.imul, 1) := by decide +kernel
theorem dX5_begin_12 : decode cX5_begin 12 = .ok (.iadd, 1) := by decide +kernel
theorem dX5_begin_13 : decode cX5_begin 13 = .ok (.putfield 19, 3) := by decide +kernel
theorem dX5_begin_16 : decode cX5_begin 16 = .ok (.aload_n 0, 1) := by decide +kernel
theorem dX5_begin_17 : decode cX5_begin 17 = .ok (.dup, 1) := by decide +kernel
theorem dX5_begin_18 : decode cX5_begin 18 = .ok (.getfield 9, 3) := by decide +kernel
theorem dX5_begin_21 : decode cX5_begin 21 = .ok (.iconst 1, 1) := by decide +kernel
theorem dX5_begin_22 : decode cX5_begin 22 = .ok (.iadd, 1) := by decide +kernel
theorem dX5_begin_23 : decode cX5_begin 23 = .ok (.putfield 9, 3) := by decide +kernel
theorem dX5_begin_26 : decode cX5_begin 26 = .ok (.aload_n 0, 1) := by decide +kernel
theorem dX5_begin_27 : decode cX5_begin 27 = .ok (.iconst 1, 1) := by decide +kernel
theorem dX5_begin_28 : decode cX5_begin 28 = .ok (.putfield 15, 3) := by decide +kernel
theorem dX5_begin_31 : decode cX5_begin 31 = .ok (.aload_n 0, 1) := by decide +kernel
theorem dX5_begin_32 : decode cX5_begin 32 = .ok (.iload_n 2, 1) := by decide +kernel
theorem dX5_begin_33 : decode cX5_begin 33 = .ok (.putfield 22, 3) := by decide +kernel
theorem dX5_begin_36 : decode cX5_begin 36 = .ok (.aload_n 0, 1) := by decide +kernel
theorem dX5_begin_37 : decode cX5_begin 37 = .ok (.aload_n 1, 1) := by decide +kernel
theorem dX5_begin_38 : decode cX5_begin 38 = .ok (.getfield 43, 3) := by decide +kernel
theorem dX5_begin_41 : decode cX5_begin 41 = .ok (.putfield 25, 3) := by decide +kernel
theorem dX5_begin_44 : decode cX5_begin 44 = .ok (.aload_n 0, 1) := by decide +kernel
theorem dX5_begin_45 : decode cX5_begin 45 = .ok (.aload_n 1, 1) := by decide +kernel
theorem dX5_begin_46 : decode cX5_begin 46 = .ok (.getfield 48, 3) := by decide +kernel
theorem dX5_begin_49 : decode cX5_begin 49 = .ok (.putfield 28, 3) := by decide +kernel
theorem dX5_begin_52 : decode cX5_begin 52 = .ok (.aload_n 0, 1) := by decide +kernel
theorem dX5_begin_53 : decode cX5_begin 53 = .ok (.aload_n 1, 1) := by decide +kernel
theorem dX5_begin_54 : decode cX5_begin 54 = .ok (.getfield 43, 3) := by decide +kernel
theorem dX5_begin_57 : decode cX5_begin 57 = .ok (.putfield 31, 3) := by decide +kernel
theorem dX5_begin_60 : decode cX5_begin 60 = .ok (.aload_n 0, 1) := by decide +kernel
theorem dX5_begin_61 : decode cX5_begin 61 = .ok (.aload_n 1, 1) := by decide +kernel
theorem dX5_begin_62 : decode cX5_begin 62 = .ok (.getfield 48, 3) := by decide +kernel
theorem dX5_begin_65 : decode cX5_begin 65 = .ok (.putfield 34, 3) := by decide +kernel
theorem dX5_begin_68 : decode cX5_begin 68 = .ok (.aload_n 0, 1) := by decide +kernel
theorem dX5_begin_69 : decode cX5_begin 69 = .ok (.iload_n 3, 1) := by decide +kernel
theorem dX5_begin_70 : decode cX5_begin 70 = .ok (.putfield 37, 3) := by decide +kernel
theorem dX5_begin_73 : decode cX5_begin 73 = .ok (.return_, 1) := by decide +kernel
theorem dX5_isRuledBy_0 : decode cX5_isRuledBy 0 = .ok (.aload_n 1, 1) := by decide +kernel
theorem dX5_isRuledBy_1 : decode cX5_isRuledBy 1 = .ok (.getfield 43, 3) := by decide +kernel
theorem dX5_isRuledBy_4 : decode cX5_isRuledBy 4 = .ok (.ifCond .eq 25, 3) := by decide +kernel
theorem dX5_isRuledBy_7 : decode cX5_isRuledBy 7 = .ok (.aload_n 1, 1) := by decide +kernel
theorem dX5_isRuledBy_8 : decode cX5_isRuledBy 8 = .ok (.getfield 43, 3) := by decide +kernel
theorem dX5_isRuledBy_11 : decode cX5_isRuledBy 11 = .ok (.aload_n 0, 1) := by decide +kernel
theorem dX5_isRuledBy_12 : decode cX5_isRuledBy 12 = .ok (.getfield 25, 3) := by decide +kernel
theorem dX5_isRuledBy_15 : decode cX5_isRuledBy 15 = .ok (.if_icmp .eq 14, 3) := by decide +kernel
theorem dX5_isRuledBy_18 : decode cX5_isRuledBy 18 = .ok (.aload_n 1, 1) := by decide +kernel
theorem dX5_isRuledBy_19 : decode cX5_isRuledBy 19 = .ok (.getfield 43, 3) := by decide +kernel
theorem dX5_isRuledBy_22 : decode cX5_isRuledBy 22 = .ok (.aload_n 0, 1) := by decide +kernel
theorem dX5_isRuledBy_23 : decode cX5_isRuledBy 23 = .ok (.getfield 31, 3) := by decide +kernel
theorem dX5_isRuledBy_26 : decode cX5_isRuledBy 26 = .ok (.if_icmp .ne 7, 3) := by decide +kernel
theorem dX5_isRuledBy_29 : decode cX5_isRuledBy 29 = .ok (.iconst 1, 1) := by decide +kernel
theorem dX5_isRuledBy_30 : decode cX5_isRuledBy 30 = .ok (.goto 4, 3) := by decide +kernel
theorem dX5_isRuledBy_33 : decode cX5_isRuledBy 33 = .ok (.iconst 0, 1) := by decide +kernel
theorem dX5_isRuledBy_34 : decode cX5_isRuledBy 34 = .ok (.ireturn, 1) := by decide +kernel
theorem dX5_grantsAll_0 : decode cX5_grantsAll 0 = .ok (.iload_n 2, 1) := by decide +kernel
theorem dX5_grantsAll_1 : decode cX5_grantsAll 1 = .ok (.aload_n 0, 1) := by decide +kernel
theorem dX5_grantsAll_2 : decode cX5_grantsAll 2 = .ok (.aload_n 1, 1) := by decide +kernel
theorem dX5_grantsAll_3 : decode cX5_grantsAll 3 = .ok (.invokevirtual 51, 3) := by decide +kernel
theorem dX5_grantsAll_6 : decode cX5_grantsAll 6 = .ok (.iconst (-1), 1) := by decide +kernel
theorem dX5_grantsAll_7 : decode cX5_grantsAll 7 = .ok (.ixor, 1) := by decide +kernel
theorem dX5_grantsAll_8 : decode cX5_grantsAll 8 = .ok (.iand, 1) := by decide +kernel
theorem dX5_grantsAll_9 : decode cX5_grantsAll 9 = .ok (.ifCond .ne 7, 3) := by decide +kernel
theorem dX5_grantsAll_12 : decode cX5_grantsAll 12 = .ok (.iconst 1, 1) := by decide +kernel
theorem dX5_grantsAll_13 : decode cX5_grantsAll 13 = .ok (.goto 4, 3) := by decide +kernel
theorem dX5_grantsAll_16 : decode cX5_grantsAll 16 = .ok (.iconst 0, 1) := by decide +kernel
theorem dX5_grantsAll_17 : decode cX5_grantsAll 17 = .ok (.ireturn, 1) := by decide +kernel
theorem dX5_mayOf_0 : decode cX5_mayOf 0 = .ok (.aload_n 1, 1) := by decide +kernel
theorem dX5_mayOf_1 : decode cX5_mayOf 1 = .ok (.getfield 43, 3) := by decide +kernel
theorem dX5_mayOf_4 : decode cX5_mayOf 4 = .ok (.ifCond .ne 6, 3) := by decide +kernel
theorem dX5_mayOf_7 : decode cX5_mayOf 7 = .ok (.bipush 7, 2) := by decide +kernel
theorem dX5_mayOf_9 : decode cX5_mayOf 9 = .ok (.ireturn, 1) := by decide +kernel
theorem dX5_mayOf_10 : decode cX5_mayOf 10 = .ok (.aload_n 1, 1) := by decide +kernel
theorem dX5_mayOf_11 : decode cX5_mayOf 11 = .ok (.getfield 43, 3) := by decide +kernel
theorem dX5_mayOf_14 : decode cX5_mayOf 14 = .ok (.aload_n 0, 1) := by decide +kernel
theorem dX5_mayOf_15 : decode cX5_mayOf 15 = .ok (.getfield 25, 3) := by decide +kernel
theorem dX5_mayOf_18 : decode cX5_mayOf 18 = .ok (.if_icmp .eq 14, 3) := by decide +kernel
theorem dX5_mayOf_21 : decode cX5_mayOf 21 = .ok (.aload_n 1, 1) := by decide +kernel
theorem dX5_mayOf_22 : decode cX5_mayOf 22 = .ok (.getfield 43, 3) := by decide +kernel
theorem dX5_mayOf_25 : decode cX5_mayOf 25 = .ok (.aload_n 0, 1) := by decide +kernel
theorem dX5_mayOf_26 : decode cX5_mayOf 26 = .ok (.getfield 31, 3) := by decide +kernel
theorem dX5_mayOf_29 : decode cX5_mayOf 29 = .ok (.if_icmp .ne 14, 3) := by decide +kernel
theorem dX5_mayOf_32 : decode cX5_mayOf 32 = .ok (.aload_n 0, 1) := by decide +kernel
theorem dX5_mayOf_33 : decode cX5_mayOf 33 = .ok (.getfield 37, 3) := by decide +kernel
theorem dX5_mayOf_36 : decode cX5_mayOf 36 = .ok (.bipush 6, 2) := by decide +kernel
theorem dX5_mayOf_38 : decode cX5_mayOf 38 = .ok (.ishr, 1) := by decide +kernel
theorem dX5_mayOf_39 : decode cX5_mayOf 39 = .ok (.bipush 7, 2) := by decide +kernel
theorem dX5_mayOf_41 : decode cX5_mayOf 41 = .ok (.iand, 1) := by decide +kernel
theorem dX5_mayOf_42 : decode cX5_mayOf 42 = .ok (.ireturn, 1) := by decide +kernel
theorem dX5_mayOf_43 : decode cX5_mayOf 43 = .ok (.aload_n 1, 1) := by decide +kernel
theorem dX5_mayOf_44 : decode cX5_mayOf 44 = .ok (.getfield 48, 3) := by decide +kernel
theorem dX5_mayOf_47 : decode cX5_mayOf 47 = .ok (.aload_n 0, 1) := by decide +kernel
theorem dX5_mayOf_48 : decode cX5_mayOf 48 = .ok (.getfield 28, 3) := by decide +kernel
theorem dX5_mayOf_51 : decode cX5_mayOf 51 = .ok (.if_icmp .eq 14, 3) := by decide +kernel
theorem dX5_mayOf_54 : decode cX5_mayOf 54 = .ok (.aload_n 1, 1) := by decide +kernel
theorem dX5_mayOf_55 : decode cX5_mayOf 55 = .ok (.getfield 48, 3) := by decide +kernel
theorem dX5_mayOf_58 : decode cX5_mayOf 58 = .ok (.aload_n 0, 1) := by decide +kernel
theorem dX5_mayOf_59 : decode cX5_mayOf 59 = .ok (.getfield 34, 3) := by decide +kernel
theorem dX5_mayOf_62 : decode cX5_mayOf 62 = .ok (.if_icmp .ne 13, 3) := by decide +kernel
theorem dX5_mayOf_65 : decode cX5_mayOf 65 = .ok (.aload_n 0, 1) := by decide +kernel
theorem dX5_mayOf_66 : decode cX5_mayOf 66 = .ok (.getfield 37, 3) := by decide +kernel
theorem dX5_mayOf_69 : decode cX5_mayOf 69 = .ok (.iconst 3, 1) := by decide +kernel
theorem dX5_mayOf_70 : decode cX5_mayOf 70 = .ok (.ishr, 1) := by decide +kernel
theorem dX5_mayOf_71 : decode cX5_mayOf 71 = .ok (.bipush 7, 2) := by decide +kernel
theorem dX5_mayOf_73 : decode cX5_mayOf 73 = .ok (.iand, 1) := by decide +kernel
theorem dX5_mayOf_74 : decode cX5_mayOf 74 = .ok (.ireturn, 1) := by decide +kernel
theorem dX5_mayOf_75 : decode cX5_mayOf 75 = .ok (.aload_n 0, 1) := by decide +kernel
theorem dX5_mayOf_76 : decode cX5_mayOf 76 = .ok (.getfield 37, 3) := by decide +kernel
theorem dX5_mayOf_79 : decode cX5_mayOf 79 = .ok (.bipush 7, 2) := by decide +kernel
theorem dX5_mayOf_81 : decode cX5_mayOf 81 = .ok (.iand, 1) := by decide +kernel
theorem dX5_mayOf_82 : decode cX5_mayOf 82 = .ok (.ireturn, 1) := by decide +kernel
theorem dX5_fact_0 : decode cX5_fact 0 = .ok (.iload_n 1, 1) := by decide +kernel
theorem dX5_fact_1 : decode cX5_fact 1 = .ok (.tableswitch 78 0 6 #[43, 48, 53, 58, 63, 68, 73], 43) := by decide +kernel
theorem dX5_fact_44 : decode cX5_fact 44 = .ok (.aload_n 0, 1) := by decide +kernel
theorem dX5_fact_45 : decode cX5_fact 45 = .ok (.getfield 19, 3) := by decide +kernel
theorem dX5_fact_48 : decode cX5_fact 48 = .ok (.ireturn, 1) := by decide +kernel
theorem dX5_fact_49 : decode cX5_fact 49 = .ok (.aload_n 0, 1) := by decide +kernel
theorem dX5_fact_50 : decode cX5_fact 50 = .ok (.getfield 22, 3) := by decide +kernel
theorem dX5_fact_53 : decode cX5_fact 53 = .ok (.ireturn, 1) := by decide +kernel
theorem dX5_fact_54 : decode cX5_fact 54 = .ok (.aload_n 0, 1) := by decide +kernel
theorem dX5_fact_55 : decode cX5_fact 55 = .ok (.getfield 25, 3) := by decide +kernel
theorem dX5_fact_58 : decode cX5_fact 58 = .ok (.ireturn, 1) := by decide +kernel
theorem dX5_fact_59 : decode cX5_fact 59 = .ok (.aload_n 0, 1) := by decide +kernel
theorem dX5_fact_60 : decode cX5_fact 60 = .ok (.getfield 28, 3) := by decide +kernel
theorem dX5_fact_63 : decode cX5_fact 63 = .ok (.ireturn, 1) := by decide +kernel
theorem dX5_fact_64 : decode cX5_fact 64 = .ok (.aload_n 0, 1) := by decide +kernel
theorem dX5_fact_65 : decode cX5_fact 65 = .ok (.getfield 31, 3) := by decide +kernel
theorem dX5_fact_68 : decode cX5_fact 68 = .ok (.ireturn, 1) := by decide +kernel
theorem dX5_fact_69 : decode cX5_fact 69 = .ok (.aload_n 0, 1) := by decide +kernel
theorem dX5_fact_70 : decode cX5_fact 70 = .ok (.getfield 34, 3) := by decide +kernel
theorem dX5_fact_73 : decode cX5_fact 73 = .ok (.ireturn, 1) := by decide +kernel
theorem dX5_fact_74 : decode cX5_fact 74 = .ok (.aload_n 0, 1) := by decide +kernel
theorem dX5_fact_75 : decode cX5_fact 75 = .ok (.getfield 37, 3) := by decide +kernel
theorem dX5_fact_78 : decode cX5_fact 78 = .ok (.ireturn, 1) := by decide +kernel
theorem dX5_fact_79 : decode cX5_fact 79 = .ok (.bipush (-4), 2) := by decide +kernel
theorem dX5_fact_81 : decode cX5_fact 81 = .ok (.ireturn, 1) := by decide +kernel
theorem dX6_init_0 : decode cX6_init 0 = .ok (.aload_n 0, 1) := by decide +kernel
theorem dX6_init_1 : decode cX6_init 1 = .ok (.invokespecial 3, 3) := by decide +kernel
theorem dX6_init_4 : decode cX6_init 4 = .ok (.aload_n 0, 1) := by decide +kernel
theorem dX6_init_5 : decode cX6_init 5 = .ok (.iconst 0, 1) := by decide +kernel
theorem dX6_init_6 : decode cX6_init 6 = .ok (.putfield 9, 3) := by decide +kernel
theorem dX6_init_9 : decode cX6_init 9 = .ok (.aload_n 0, 1) := by decide +kernel
theorem dX6_init_10 : decode cX6_init 10 = .ok (.lconst 0, 1) := by decide +kernel
theorem dX6_init_11 : decode cX6_init 11 = .ok (.putfield 15, 3) := by decide +kernel
theorem dX6_init_14 : decode cX6_init 14 = .ok (.aload_n 0, 1) := by decide +kernel
theorem dX6_init_15 : decode cX6_init 15 = .ok (.iconst 0, 1) := by decide +kernel
theorem dX6_init_16 : decode cX6_init 16 = .ok (.putfield 19, 3) := by decide +kernel
theorem dX6_init_19 : decode cX6_init 19 = .ok (.aload_n 0, 1) := by decide +kernel
theorem dX6_init_20 : decode cX6_init 20 = .ok (.iconst 0, 1) := by decide +kernel
theorem dX6_init_21 : decode cX6_init 21 = .ok (.putfield 23, 3) := by decide +kernel
theorem dX6_init_24 : decode cX6_init 24 = .ok (.return_, 1) := by decide +kernel
theorem dX6_become_0 : decode cX6_become 0 = .ok (.aload_n 0, 1) := by decide +kernel
theorem dX6_become_1 : decode cX6_become 1 = .ok (.iload_n 1, 1) := by decide +kernel
theorem dX6_become_2 : decode cX6_become 2 = .ok (.putfield 9, 3) := by decide +kernel
theorem dX6_become_5 : decode cX6_become 5 = .ok (.aload_n 0, 1) := by decide +kernel
theorem dX6_become_6 : decode cX6_become 6 = .ok (.lload_n 2, 1) := by decide +kernel
theorem dX6_become_7 : decode cX6_become 7 = .ok (.putfield 15, 3) := by decide +kernel
theorem dX6_become_10 : decode cX6_become 10 = .ok (.aload_n 0, 1) := by decide +kernel
theorem dX6_become_11 : decode cX6_become 11 = .ok (.iload 4, 2) := by decide +kernel
theorem dX6_become_13 : decode cX6_become 13 = .ok (.iconst 2, 1) := by decide +kernel
theorem dX6_become_14 : decode cX6_become 14 = .ok (.iand, 1) := by decide +kernel
theorem dX6_become_15 : decode cX6_become 15 = .ok (.ifCond .eq 7, 3) := by decide +kernel
theorem dX6_become_18 : decode cX6_become 18 = .ok (.iconst 1, 1) := by decide +kernel
theorem dX6_become_19 : decode cX6_become 19 = .ok (.goto 4, 3) := by decide +kernel
theorem dX6_become_22 : decode cX6_become 22 = .ok (.iconst 0, 1) := by decide +kernel
theorem dX6_become_23 : decode cX6_become 23 = .ok (.putfield 19, 3) := by decide +kernel
theorem dX6_become_26 : decode cX6_become 26 = .ok (.aload_n 0, 1) := by decide +kernel
theorem dX6_become_27 : decode cX6_become 27 = .ok (.iload 4, 2) := by decide +kernel
theorem dX6_become_29 : decode cX6_become 29 = .ok (.iconst 4, 1) := by decide +kernel
theorem dX6_become_30 : decode cX6_become 30 = .ok (.iand, 1) := by decide +kernel
theorem dX6_become_31 : decode cX6_become 31 = .ok (.ifCond .eq 7, 3) := by decide +kernel
theorem dX6_become_34 : decode cX6_become 34 = .ok (.iconst 1, 1) := by decide +kernel
theorem dX6_become_35 : decode cX6_become 35 = .ok (.goto 4, 3) := by decide +kernel
theorem dX6_become_38 : decode cX6_become 38 = .ok (.iconst 0, 1) := by decide +kernel
theorem dX6_become_39 : decode cX6_become 39 = .ok (.putfield 23, 3) := by decide +kernel
theorem dX6_become_42 : decode cX6_become 42 = .ok (.return_, 1) := by decide +kernel
theorem dX6_wants_0 : decode cX6_wants 0 = .ok (.aload_n 0, 1) := by decide +kernel
theorem dX6_wants_1 : decode cX6_wants 1 = .ok (.getfield 15, 3) := by decide +kernel
theorem dX6_wants_4 : decode cX6_wants 4 = .ok (.lconst 0, 1) := by decide +kernel
theorem dX6_wants_5 : decode cX6_wants 5 = .ok (.lcmp, 1) := by decide +kernel
theorem dX6_wants_6 : decode cX6_wants 6 = .ok (.ifCond .ne 5, 3) := by decide +kernel
theorem dX6_wants_9 : decode cX6_wants 9 = .ok (.iconst 1, 1) := by decide +kernel
theorem dX6_wants_10 : decode cX6_wants 10 = .ok (.ireturn, 1) := by decide +kernel
theorem dX6_wants_11 : decode cX6_wants 11 = .ok (.aload_n 0, 1) := by decide +kernel
theorem dX6_wants_12 : decode cX6_wants 12 = .ok (.getfield 15, 3) := by decide +kernel
theorem dX6_wants_15 : decode cX6_wants 15 = .ok (.lconst 0, 1) := by decide +kernel
theorem dX6_wants_16 : decode cX6_wants 16 = .ok (.lcmp, 1) := by decide +kernel
theorem dX6_wants_17 : decode cX6_wants 17 = .ok (.ifCond .ge 22, 3) := by decide +kernel
theorem dX6_wants_20 : decode cX6_wants 20 = .ok (.lload_n 1, 1) := by decide +kernel
theorem dX6_wants_21 : decode cX6_wants 21 = .ok (.aload_n 0, 1) := by decide +kernel
theorem dX6_wants_22 : decode cX6_wants 22 = .ok (.getfield 15, 3) := by decide +kernel
theorem dX6_wants_25 : decode cX6_wants 25 = .ok (.ladd, 1) := by decide +kernel
theorem dX6_wants_26 : decode cX6_wants 26 = .ok (.lconst 0, 1) := by decide +kernel
theorem dX6_wants_27 : decode cX6_wants 27 = .ok (.lcmp, 1) := by decide +kernel
theorem dX6_wants_28 : decode cX6_wants 28 = .ok (.ifCond .gt 7, 3) := by decide +kernel
theorem dX6_wants_31 : decode cX6_wants 31 = .ok (.iconst 1, 1) := by decide +kernel
theorem dX6_wants_32 : decode cX6_wants 32 = .ok (.goto 33, 3) := by decide +kernel
theorem dX6_wants_35 : decode cX6_wants 35 = .ok (.iconst 0, 1) := by decide +kernel
theorem dX6_wants_36 : decode cX6_wants 36 = .ok (.goto 29, 3) := by decide +kernel
theorem dX6_wants_39 : decode cX6_wants 39 = .ok (.lload_n 1, 1) := by decide +kernel
theorem dX6_wants_40 : decode cX6_wants 40 = .ok (.aload_n 0, 1) := by decide +kernel
theorem dX6_wants_41 : decode cX6_wants 41 = .ok (.getfield 15, 3) := by decide +kernel
theorem dX6_wants_44 : decode cX6_wants 44 = .ok (.lcmp, 1) := by decide +kernel
theorem dX6_wants_45 : decode cX6_wants 45 = .ok (.ifCond .ne 7, 3) := by decide +kernel
theorem dX6_wants_48 : decode cX6_wants 48 = .ok (.iconst 1, 1) := by decide +kernel
theorem dX6_wants_49 : decode cX6_wants 49 = .ok (.goto 4, 3) := by decide +kernel
theorem dX6_wants_52 : decode cX6_wants 52 = .ok (.iconst 0, 1) := by decide +kernel
theorem dX6_wants_53 : decode cX6_wants 53 = .ok (.aload_n 0, 1) := by decide +kernel
theorem dX6_wants_54 : decode cX6_wants 54 = .ok (.getfield 23, 3) := by decide +kernel
theorem dX6_wants_57 : decode cX6_wants 57 = .ok (.if_icmp .eq 7, 3) := by decide +kernel
theorem dX6_wants_60 : decode cX6_wants 60 = .ok (.iconst 1, 1) := by decide +kernel
theorem dX6_wants_61 : decode cX6_wants 61 = .ok (.goto 4, 3) := by decide +kernel
theorem dX6_wants_64 : decode cX6_wants 64 = .ok (.iconst 0, 1) := by decide +kernel
theorem dX6_wants_65 : decode cX6_wants 65 = .ok (.ireturn, 1) := by decide +kernel
theorem dX6_isTooSmallFor_0 : decode cX6_isTooSmallFor 0 = .ok (.aload_n 0, 1) := by decide +kernel
theorem dX6_isTooSmallFor_1 : decode cX6_isTooSmallFor 1 = .ok (.getfield 19, 3) := by decide +kernel
theorem dX6_isTooSmallFor_4 : decode cX6_isTooSmallFor 4 = .ok (.ifCond .ne 18, 3) := by decide +kernel
theorem dX6_isTooSmallFor_7 : decode cX6_isTooSmallFor 7 = .ok (.aload_n 1, 1) := by decide +kernel
theorem dX6_isTooSmallFor_8 : decode cX6_isTooSmallFor 8 = .ok (.getfield 26, 3) := by decide +kernel
theorem dX6_isTooSmallFor_11 : decode cX6_isTooSmallFor 11 = .ok (.aload_n 0, 1) := by decide +kernel
theorem dX6_isTooSmallFor_12 : decode cX6_isTooSmallFor 12 = .ok (.getfield 9, 3) := by decide +kernel
theorem dX6_isTooSmallFor_15 : decode cX6_isTooSmallFor 15 = .ok (.if_icmp .le 7, 3) := by decide +kernel
theorem dX6_isTooSmallFor_18 : decode cX6_isTooSmallFor 18 = .ok (.iconst 1, 1) := by decide +kernel
theorem dX6_isTooSmallFor_19 : decode cX6_isTooSmallFor 19 = .ok (.goto 4, 3) := by decide +kernel
theorem dX6_isTooSmallFor_22 : decode cX6_isTooSmallFor 22 = .ok (.iconst 0, 1) := by decide +kernel
theorem dX6_isTooSmallFor_23 : decode cX6_isTooSmallFor 23 = .ok (.ireturn, 1) := by decide +kernel
theorem dX7_init_0 : decode cX7_init 0 = .ok (.aload_n 0, 1) := by decide +kernel
theorem dX7_init_1 : decode cX7_init 1 = .ok (.invokespecial 1, 3) := by decide +kernel
theorem dX7_init_4 : decode cX7_init 4 = .ok (.aload_n 0, 1) := by decide +kernel
theorem dX7_init_5 : decode cX7_init 5 = .ok (.bipush 16, 2) := by decide +kernel
theorem dX7_init_7 : decode cX7_init 7 = .ok (.anewarray 9, 3) := by decide +kernel
theorem dX7_init_10 : decode cX7_init 10 = .ok (.putfield 11, 3) := by decide +kernel
theorem dX7_init_13 : decode cX7_init 13 = .ok (.aload_n 0, 1) := by decide +kernel
theorem dX7_init_14 : decode cX7_init 14 = .ok (.iconst 0, 1) := by decide +kernel
theorem dX7_init_15 : decode cX7_init 15 = .ok (.putfield 15, 3) := by decide +kernel
theorem dX7_init_18 : decode cX7_init 18 = .ok (.aload_n 0, 1) := by decide +kernel
theorem dX7_init_19 : decode cX7_init 19 = .ok (.bipush 12, 2) := by decide +kernel
theorem dX7_init_21 : decode cX7_init 21 = .ok (.anewarray 19, 3) := by decide +kernel
theorem dX7_init_24 : decode cX7_init 24 = .ok (.putfield 21, 3) := by decide +kernel
theorem dX7_init_27 : decode cX7_init 27 = .ok (.aload_n 0, 1) := by decide +kernel
theorem dX7_init_28 : decode cX7_init 28 = .ok (.bipush 12, 2) := by decide +kernel
theorem dX7_init_30 : decode cX7_init 30 = .ok (.anewarray 19, 3) := by decide +kernel
theorem dX7_init_33 : decode cX7_init 33 = .ok (.putfield 25, 3) := by decide +kernel
theorem dX7_init_36 : decode cX7_init 36 = .ok (.aload_n 0, 1) := by decide +kernel
theorem dX7_init_37 : decode cX7_init 37 = .ok (.bipush 16, 2) := by decide +kernel
theorem dX7_init_39 : decode cX7_init 39 = .ok (.anewarray 9, 3) := by decide +kernel
theorem dX7_init_42 : decode cX7_init 42 = .ok (.putfield 28, 3) := by decide +kernel
theorem dX7_init_45 : decode cX7_init 45 = .ok (.aload_n 0, 1) := by decide +kernel
theorem dX7_init_46 : decode cX7_init 46 = .ok (.iconst 0, 1) := by decide +kernel
theorem dX7_init_47 : decode cX7_init 47 = .ok (.putfield 31, 3) := by decide +kernel
theorem dX7_init_50 : decode cX7_init 50 = .ok (.return_, 1) := by decide +kernel
theorem dX7_process_0 : decode cX7_process 0 = .ok (.iload_n 1, 1) := by decide +kernel
theorem dX7_process_1 : decode cX7_process 1 = .ok (.bipush 99, 2) := by decide +kernel
theorem dX7_process_3 : decode cX7_process 3 = .ok (.invokestatic 34, 3) := by decide +kernel
theorem dX7_process_6 : decode cX7_process 6 = .ok (.ifCond .eq 12, 3) := by decide +kernel
theorem dX7_process_9 : decode cX7_process 9 = .ok (.iload_n 2, 1) := by decide +kernel
theorem dX7_process_10 : decode cX7_process 10 = .ok (.bipush 99, 2) := by decide +kernel
theorem dX7_process_12 : decode cX7_process 12 = .ok (.invokestatic 34, 3) := by decide +kernel
theorem dX7_process_15 : decode cX7_process 15 = .ok (.ifCond .ne 6, 3) := by decide +kernel
theorem dX7_process_18 : decode cX7_process 18 = .ok (.bipush (-4), 2) := by decide +kernel
theorem dX7_process_20 : decode cX7_process 20 = .ok (.ireturn, 1) := by decide +kernel
theorem dX7_process_21 : decode cX7_process 21 = .ok (.aload_n 0, 1) := by decide +kernel
theorem dX7_process_22 : decode cX7_process 22 = .ok (.getfield 15, 3) := by decide +kernel
theorem dX7_process_25 : decode cX7_process 25 = .ok (.bipush 16, 2) := by decide +kernel
theorem dX7_process_27 : decode cX7_process 27 = .ok (.if_icmp .lt 6, 3) := by decide +kernel
theorem dX7_process_30 : decode cX7_process 30 = .ok (.bipush (-9), 2) := by decide +kernel
theorem dX7_process_32 : decode cX7_process 32 = .ok (.ireturn, 1) := by decide +kernel
theorem dX7_process_33 : decode cX7_process 33 = .ok (.aload_n 0, 1) := by decide +kernel
theorem dX7_process_34 : decode cX7_process 34 = .ok (.getfield 15, 3) := by decide +kernel
theorem dX7_process_37 : decode cX7_process 37 = .ok (.istore_n 3, 1) := by decide +kernel
theorem dX7_process_38 : decode cX7_process 38 = .ok (.aload_n 0, 1) := by decide +kernel
theorem dX7_process_39 : decode cX7_process 39 = .ok (.getfield 11, 3) := by decide +kernel
theorem dX7_process_42 : decode cX7_process 42 = .ok (.iload_n 3, 1) := by decide +kernel
theorem dX7_process_43 : decode cX7_process 43 = .ok (.new 9, 3) := by decide +kernel
theorem dX7_process_46 : decode cX7_process 46 = .ok (.dup, 1) := by decide +kernel
theorem dX7_process_47 : decode cX7_process 47 = .ok (.iload_n 3, 1) := by decide +kernel
theorem dX7_process_48 : decode cX7_process 48 = .ok (.iload_n 1, 1) := by decide +kernel
theorem dX7_process_49 : decode cX7_process 49 = .ok (.iload_n 2, 1) := by decide +kernel
theorem dX7_process_50 : decode cX7_process 50 = .ok (.invokespecial 38, 3) := by decide +kernel
theorem dX7_process_53 : decode cX7_process 53 = .ok (.aastore, 1) := by decide +kernel
theorem dX7_process_54 : decode cX7_process 54 = .ok (.aload_n 0, 1) := by decide +kernel
theorem dX7_process_55 : decode cX7_process 55 = .ok (.dup, 1) := by decide +kernel
theorem dX7_process_56 : decode cX7_process 56 = .ok (.getfield 15, 3) := by decide +kernel
theorem dX7_process_59 : decode cX7_process 59 = .ok (.iconst 1, 1) := by decide +kernel
theorem dX7_process_60 : decode cX7_process 60 = .ok (.iadd, 1) := by decide +kernel
theorem dX7_process_61 : decode cX7_process 61 = .ok (.putfield 15, 3) := by decide +kernel
theorem dX7_process_64 : decode cX7_process 64 = .ok (.iload_n 3, 1) := by decide +kernel
theorem dX7_process_65 : decode cX7_process 65 = .ok (.ireturn, 1) := by decide +kernel
theorem dX7_exit_0 : decode cX7_exit 0 = .ok (.aload_n 0, 1) := by decide +kernel
theorem dX7_exit_1 : decode cX7_exit 1 = .ok (.iload_n 1, 1) := by decide +kernel
theorem dX7_exit_2 : decode cX7_exit 2 = .ok (.invokevirtual 41, 3) := by decide +kernel
theorem dX7_exit_5 : decode cX7_exit 5 = .ok (.astore_n 2, 1) := by decide +kernel
theorem dX7_exit_6 : decode cX7_exit 6 = .ok (.aload_n 2, 1) := by decide +kernel
theorem dX7_exit_7 : decode cX7_exit 7 = .ok (.ifnonnull 6, 3) := by decide +kernel
theorem dX7_exit_10 : decode cX7_exit 10 = .ok (.bipush (-2), 2) := by decide +kernel
theorem dX7_exit_12 : decode cX7_exit 12 = .ok (.ireturn, 1) := by decide +kernel
theorem dX7_exit_13 : decode cX7_exit 13 = .ok (.aload_n 2, 1) := by decide +kernel
theorem dX7_exit_14 : decode cX7_exit 14 = .ok (.getfield 45, 3) := by decide +kernel
theorem dX7_exit_17 : decode cX7_exit 17 = .ok (.ifCond .ne 6, 3) := by decide +kernel
theorem dX7_exit_20 : decode cX7_exit 20 = .ok (.bipush (-3), 2) := by decide +kernel
theorem dX7_exit_22 : decode cX7_exit 22 = .ok (.ireturn, 1) := by decide +kernel
theorem dX7_exit_23 : decode cX7_exit 23 = .ok (.aload_n 2, 1) := by decide +kernel
theorem dX7_exit_24 : decode cX7_exit 24 = .ok (.getfield 49, 3) := by decide +kernel
theorem dX7_exit_27 : decode cX7_exit 27 = .ok (.ifCond .eq 10, 3) := by decide +kernel
theorem dX7_exit_30 : decode cX7_exit 30 = .ok (.aload_n 0, 1) := by decide +kernel
theorem dX7_exit_31 : decode cX7_exit 31 = .ok (.aload_n 2, 1) := by decide +kernel
theorem dX7_exit_32 : decode cX7_exit 32 = .ok (.bipush (-16), 2) := by decide +kernel
theorem dX7_exit_34 : decode cX7_exit 34 = .ok (.invokevirtual 52, 3) := by decide +kernel
theorem dX7_exit_37 : decode cX7_exit 37 = .ok (.iconst 0, 1) := by decide +kernel
theorem dX7_exit_38 : decode cX7_exit 38 = .ok (.istore_n 3, 1) := by decide +kernel
theorem dX7_exit_39 : decode cX7_exit 39 = .ok (.iload_n 3, 1) := by decide +kernel
theorem dX7_exit_40 : decode cX7_exit 40 = .ok (.bipush 12, 2) := by decide +kernel
theorem dX7_exit_42 : decode cX7_exit 42 = .ok (.if_icmp .ge 39, 3) := by decide +kernel
theorem dX7_exit_45 : decode cX7_exit 45 = .ok (.aload_n 0, 1) := by decide +kernel
theorem dX7_exit_46 : decode cX7_exit 46 = .ok (.iload_n 3, 1) := by decide +kernel
theorem dX7_exit_47 : decode cX7_exit 47 = .ok (.invokevirtual 56, 3) := by decide +kernel
theorem dX7_exit_50 : decode cX7_exit 50 = .ok (.astore 4, 2) := by decide +kernel
theorem dX7_exit_52 : decode cX7_exit 52 = .ok (.aload 4, 2) := by decide +kernel
theorem dX7_exit_54 : decode cX7_exit 54 = .ok (.ifnull 21, 3) := by decide +kernel
theorem dX7_exit_57 : decode cX7_exit 57 = .ok (.aload 4, 2) := by decide +kernel
theorem dX7_exit_59 : decode cX7_exit 59 = .ok (.aload_n 2, 1) := by decide +kernel
theorem dX7_exit_60 : decode cX7_exit 60 = .ok (.getfield 60, 3) := by decide +kernel
theorem dX7_exit_63 : decode cX7_exit 63 = .ok (.invokevirtual 63, 3) := by decide +kernel
theorem dX7_exit_66 : decode cX7_exit 66 = .ok (.ifCond .eq 9, 3) := by decide +kernel
theorem dX7_exit_69 : decode cX7_exit 69 = .ok (.aload_n 0, 1) := by decide +kernel
theorem dX7_exit_70 : decode cX7_exit 70 = .ok (.aload 4, 2) := by decide +kernel
theorem dX7_exit_72 : decode cX7_exit 72 = .ok (.invokevirtual 69, 3) := by decide +kernel
theorem dX7_exit_75 : decode cX7_exit 75 = .ok (.iinc 3 1, 3) := by decide +kernel
theorem dX7_exit_78 : decode cX7_exit 78 = .ok (.goto (-39), 3) := by decide +kernel
theorem dX7_exit_81 : decode cX7_exit 81 = .ok (.aload_n 2, 1) := by decide +kernel
theorem dX7_exit_82 : decode cX7_exit 82 = .ok (.iconst 0, 1) := by decide +kernel
theorem dX7_exit_83 : decode cX7_exit 83 = .ok (.putfield 45, 3) := by decide +kernel
theorem dX7_exit_86 : decode cX7_exit 86 = .ok (.iconst 1, 1) := by decide +kernel
theorem dX7_exit_87 : decode cX7_exit 87 = .ok (.ireturn, 1) := by decide +kernel
theorem dX7_signal_0 : decode cX7_signal 0 = .ok (.aload_n 0, 1) := by decide +kernel
theorem dX7_signal_1 : decode cX7_signal 1 = .ok (.iload_n 1, 1) := by decide +kernel
theorem dX7_signal_2 : decode cX7_signal 2 = .ok (.invokevirtual 41, 3) := by decide +kernel
theorem dX7_signal_5 : decode cX7_signal 5 = .ok (.astore_n 2, 1) := by decide +kernel
theorem dX7_signal_6 : decode cX7_signal 6 = .ok (.aload_n 2, 1) := by decide +kernel
theorem dX7_signal_7 : decode cX7_signal 7 = .ok (.ifnonnull 6, 3) := by decide +kernel
theorem dX7_signal_10 : decode cX7_signal 10 = .ok (.bipush (-2), 2) := by decide +kernel
theorem dX7_signal_12 : decode cX7_signal 12 = .ok (.ireturn, 1) := by decide +kernel
theorem dX7_signal_13 : decode cX7_signal 13 = .ok (.aload_n 2, 1) := by decide +kernel
theorem dX7_signal_14 : decode cX7_signal 14 = .ok (.getfield 49, 3) := by decide +kernel
theorem dX7_signal_17 : decode cX7_signal 17 = .ok (.ifCond .ne 6, 3) := by decide +kernel
theorem dX7_signal_20 : decode cX7_signal 20 = .ok (.bipush (-3), 2) := by decide +kernel
theorem dX7_signal_22 : decode cX7_signal 22 = .ok (.ireturn, 1) := by decide +kernel
theorem dX7_signal_23 : decode cX7_signal 23 = .ok (.aload_n 0, 1) := by decide +kernel
theorem dX7_signal_24 : decode cX7_signal 24 = .ok (.aload_n 2, 1) := by decide +kernel
theorem dX7_signal_25 : decode cX7_signal 25 = .ok (.bipush (-16), 2) := by decide +kernel
theorem dX7_signal_27 : decode cX7_signal 27 = .ok (.invokevirtual 52, 3) := by decide +kernel
theorem dX7_signal_30 : decode cX7_signal 30 = .ok (.iconst 1, 1) := by decide +kernel
theorem dX7_signal_31 : decode cX7_signal 31 = .ok (.ireturn, 1) := by decide +kernel
theorem dX7_result_0 : decode cX7_result 0 = .ok (.aload_n 0, 1) := by decide +kernel
theorem dX7_result_1 : decode cX7_result 1 = .ok (.iload_n 1, 1) := by decide +kernel
theorem dX7_result_2 : decode cX7_result 2 = .ok (.invokevirtual 41, 3) := by decide +kernel
theorem dX7_result_5 : decode cX7_result 5 = .ok (.astore_n 2, 1) := by decide +kernel
theorem dX7_result_6 : decode cX7_result 6 = .ok (.aload_n 2, 1) := by decide +kernel
theorem dX7_result_7 : decode cX7_result 7 = .ok (.ifnonnull 8, 3) := by decide +kernel
theorem dX7_result_10 : decode cX7_result 10 = .ok (.bipush (-2), 2) := by decide +kernel
theorem dX7_result_12 : decode cX7_result 12 = .ok (.goto 7, 3) := by decide +kernel
theorem dX7_result_15 : decode cX7_result 15 = .ok (.aload_n 2, 1) := by decide +kernel
theorem dX7_result_16 : decode cX7_result 16 = .ok (.getfield 73, 3) := by decide +kernel
theorem dX7_result_19 : decode cX7_result 19 = .ok (.ireturn, 1) := by decide +kernel
theorem dX7_area_0 : decode cX7_area 0 = .ok (.aload_n 0, 1) := by decide +kernel
theorem dX7_area_1 : decode cX7_area 1 = .ok (.iload_n 1, 1) := by decide +kernel
theorem dX7_area_2 : decode cX7_area 2 = .ok (.invokevirtual 41, 3) := by decide +kernel
theorem dX7_area_5 : decode cX7_area 5 = .ok (.astore 4, 2) := by decide +kernel
theorem dX7_area_7 : decode cX7_area 7 = .ok (.aload 4, 2) := by decide +kernel
theorem dX7_area_9 : decode cX7_area 9 = .ok (.ifnonnull 6, 3) := by decide +kernel
theorem dX7_area_12 : decode cX7_area 12 = .ok (.bipush (-2), 2) := by decide +kernel
theorem dX7_area_14 : decode cX7_area 14 = .ok (.ireturn, 1) := by decide +kernel
theorem dX7_area_15 : decode cX7_area 15 = .ok (.iload_n 2, 1) := by decide +kernel
theorem dX7_area_16 : decode cX7_area 16 = .ok (.bipush 63, 2) := by decide +kernel
theorem dX7_area_18 : decode cX7_area 18 = .ok (.invokestatic 34, 3) := by decide +kernel
theorem dX7_area_21 : decode cX7_area 21 = .ok (.ifCond .eq 13, 3) := by decide +kernel
theorem dX7_area_24 : decode cX7_area 24 = .ok (.iload_n 3, 1) := by decide +kernel
theorem dX7_area_25 : decode cX7_area 25 = .ok (.sipush 255, 3) := by decide +kernel
theorem dX7_area_28 : decode cX7_area 28 = .ok (.invokestatic 34, 3) := by decide +kernel
theorem dX7_area_31 : decode cX7_area 31 = .ok (.ifCond .ne 6, 3) := by decide +kernel
theorem dX7_area_34 : decode cX7_area 34 = .ok (.bipush (-4), 2) := by decide +kernel
theorem dX7_area_36 : decode cX7_area 36 = .ok (.ireturn, 1) := by decide +kernel
theorem dX7_area_37 : decode cX7_area 37 = .ok (.aload 4, 2) := by decide +kernel
theorem dX7_area_39 : decode cX7_area 39 = .ok (.getfield 76, 3) := by decide +kernel
theorem dX7_area_42 : decode cX7_area 42 = .ok (.iload_n 2, 1) := by decide +kernel
theorem dX7_area_43 : decode cX7_area 43 = .ok (.iaload, 1) := by decide +kernel
theorem dX7_area_44 : decode cX7_area 44 = .ok (.istore 5, 2) := by decide +kernel
theorem dX7_area_46 : decode cX7_area 46 = .ok (.aload 4, 2) := by decide +kernel
theorem dX7_area_48 : decode cX7_area 48 = .ok (.getfield 76, 3) := by decide +kernel
theorem dX7_area_51 : decode cX7_area 51 = .ok (.iload_n 2, 1) := by decide +kernel
theorem dX7_area_52 : decode cX7_area 52 = .ok (.iload_n 3, 1) := by decide +kernel
theorem dX7_area_53 : decode cX7_area 53 = .ok (.iastore, 1) := by decide +kernel
theorem dX7_area_54 : decode cX7_area 54 = .ok (.iload 5, 2) := by decide +kernel
theorem dX7_area_56 : decode cX7_area 56 = .ok (.ireturn, 1) := by decide +kernel
theorem dX7_areaAt_0 : decode cX7_areaAt 0 = .ok (.aload_n 0, 1) := by decide +kernel
theorem dX7_areaAt_1 : decode cX7_areaAt 1 = .ok (.iload_n 1, 1) := by decide +kernel
theorem dX7_areaAt_2 : decode cX7_areaAt 2 = .ok (.invokevirtual 41, 3) := by decide +kernel
theorem dX7_areaAt_5 : decode cX7_areaAt 5 = .ok (.astore_n 3, 1) := by decide +kernel
theorem dX7_areaAt_6 : decode cX7_areaAt 6 = .ok (.aload_n 3, 1) := by decide +kernel
theorem dX7_areaAt_7 : decode cX7_areaAt 7 = .ok (.ifnonnull 6, 3) := by decide +kernel
theorem dX7_areaAt_10 : decode cX7_areaAt 10 = .ok (.bipush (-2), 2) := by decide +kernel
theorem dX7_areaAt_12 : decode cX7_areaAt 12 = .ok (.ireturn, 1) := by decide +kernel
theorem dX7_areaAt_13 : decode cX7_areaAt 13 = .ok (.iload_n 2, 1) := by decide +kernel
theorem dX7_areaAt_14 : decode cX7_areaAt 14 = .ok (.bipush 63, 2) := by decide +kernel
theorem dX7_areaAt_16 : decode cX7_areaAt 16 = .ok (.invokestatic 34, 3) := by decide +kernel
theorem dX7_areaAt_19 : decode cX7_areaAt 19 = .ok (.ifCond .eq 12, 3) := by decide +kernel
theorem dX7_areaAt_22 : decode cX7_areaAt 22 = .ok (.aload_n 3, 1) := by decide +kernel
theorem dX7_areaAt_23 : decode cX7_areaAt 23 = .ok (.getfield 76, 3) := by decide +kernel
theorem dX7_areaAt_26 : decode cX7_areaAt 26 = .ok (.iload_n 2, 1) := by decide +kernel
theorem dX7_areaAt_27 : decode cX7_areaAt 27 = .ok (.iaload, 1) := by decide +kernel
theorem dX7_areaAt_28 : decode cX7_areaAt 28 = .ok (.goto 5, 3) := by decide +kernel
theorem dX7_areaAt_31 : decode cX7_areaAt 31 = .ok (.bipush (-4), 2) := by decide +kernel
theorem dX7_areaAt_33 : decode cX7_areaAt 33 = .ok (.ireturn, 1) := by decide +kernel
theorem dX7_taken_0 : decode cX7_taken 0 = .ok (.aload_n 0, 1) := by decide +kernel
theorem dX7_taken_1 : decode cX7_taken 1 = .ok (.iload_n 1, 1) := by decide +kernel
theorem dX7_taken_2 : decode cX7_taken 2 = .ok (.invokevirtual 41, 3) := by decide +kernel
theorem dX7_taken_5 : decode cX7_taken 5 = .ok (.astore_n 2, 1) := by decide +kernel
theorem dX7_taken_6 : decode cX7_taken 6 = .ok (.aload_n 2, 1) := by decide +kernel
theorem dX7_taken_7 : decode cX7_taken 7 = .ok (.ifnonnull 9, 3) := by decide +kernel
theorem dX7_taken_10 : decode cX7_taken 10 = .ok (.ldc2_w 80, 3) := by decide +kernel
theorem dX7_taken_13 : decode cX7_taken 13 = .ok (.goto 7, 3) := by decide +kernel
theorem dX7_taken_16 : decode cX7_taken 16 = .ok (.aload_n 2, 1) := by decide +kernel
theorem dX7_taken_17 : decode cX7_taken 17 = .ok (.getfield 82, 3) := by decide +kernel
theorem dX7_taken_20 : decode cX7_taken 20 = .ok (.lreturn, 1) := by decide +kernel
theorem dX7_queue_0 : decode cX7_queue 0 = .ok (.aload_n 0, 1) := by decide +kernel
theorem dX7_queue_1 : decode cX7_queue 1 = .ok (.iload_n 1, 1) := by decide +kernel
theorem dX7_queue_2 : decode cX7_queue 2 = .ok (.invokevirtual 41, 3) := by decide +kernel
theorem dX7_queue_5 : decode cX7_queue 5 = .ok (.astore 4, 2) := by decide +kernel
theorem dX7_queue_7 : decode cX7_queue 7 = .ok (.aload 4, 2) := by decide +kernel
theorem dX7_queue_9 : decode cX7_queue 9 = .ok (.ifnonnull 6, 3) := by decide +kernel
theorem dX7_queue_12 : decode cX7_queue 12 = .ok (.bipush (-2), 2) := by decide +kernel
theorem dX7_queue_14 : decode cX7_queue 14 = .ok (.ireturn, 1) := by decide +kernel
theorem dX7_queue_15 : decode cX7_queue 15 = .ok (.aload 4, 2) := by decide +kernel
theorem dX7_queue_17 : decode cX7_queue 17 = .ok (.invokevirtual 86, 3) := by decide +kernel
theorem dX7_queue_20 : decode cX7_queue 20 = .ok (.ifCond .eq 19, 3) := by decide +kernel
theorem dX7_queue_23 : decode cX7_queue 23 = .ok (.aload 4, 2) := by decide +kernel
theorem dX7_queue_25 : decode cX7_queue 25 = .ok (.aload_n 0, 1) := by decide +kernel
theorem dX7_queue_26 : decode cX7_queue 26 = .ok (.aload 4, 2) := by decide +kernel
theorem dX7_queue_28 : decode cX7_queue 28 = .ok (.iload_n 2, 1) := by decide +kernel
theorem dX7_queue_29 : decode cX7_queue 29 = .ok (.iload_n 3, 1) := by decide +kernel
theorem dX7_queue_30 : decode cX7_queue 30 = .ok (.invokevirtual 90, 3) := by decide +kernel
theorem dX7_queue_33 : decode cX7_queue 33 = .ok (.invokevirtual 94, 3) := by decide +kernel
theorem dX7_queue_36 : decode cX7_queue 36 = .ok (.goto 5, 3) := by decide +kernel
theorem dX7_queue_39 : decode cX7_queue 39 = .ok (.bipush (-3), 2) := by decide +kernel
theorem dX7_queue_41 : decode cX7_queue 41 = .ok (.ireturn, 1) := by decide +kernel
theorem dX7_set_0 : decode cX7_set 0 = .ok (.aload_n 0, 1) := by decide +kernel
theorem dX7_set_1 : decode cX7_set 1 = .ok (.iload_n 1, 1) := by decide +kernel
theorem dX7_set_2 : decode cX7_set 2 = .ok (.invokevirtual 41, 3) := by decide +kernel
theorem dX7_set_5 : decode cX7_set 5 = .ok (.astore 5, 2) := by decide +kernel
theorem dX7_set_7 : decode cX7_set 7 = .ok (.aload 5, 2) := by decide +kernel
theorem dX7_set_9 : decode cX7_set 9 = .ok (.ifnonnull 6, 3) := by decide +kernel
theorem dX7_set_12 : decode cX7_set 12 = .ok (.bipush (-2), 2) := by decide +kernel
theorem dX7_set_14 : decode cX7_set 14 = .ok (.ireturn, 1) := by decide +kernel
theorem dX7_set_15 : decode cX7_set 15 = .ok (.aload 5, 2) := by decide +kernel
theorem dX7_set_17 : decode cX7_set 17 = .ok (.invokevirtual 86, 3) := by decide +kernel
theorem dX7_set_20 : decode cX7_set 20 = .ok (.ifCond .eq 21, 3) := by decide +kernel
theorem dX7_set_23 : decode cX7_set 23 = .ok (.aload 5, 2) := by decide +kernel
theorem dX7_set_25 : decode cX7_set 25 = .ok (.aload_n 0, 1) := by decide +kernel
theorem dX7_set_26 : decode cX7_set 26 = .ok (.aload 5, 2) := by decide +kernel
theorem dX7_set_28 : decode cX7_set 28 = .ok (.iload_n 2, 1) := by decide +kernel
theorem dX7_set_29 : decode cX7_set 29 = .ok (.iload_n 3, 1) := by decide +kernel
theorem dX7_set_30 : decode cX7_set 30 = .ok (.iload 4, 2) := by decide +kernel
theorem dX7_set_32 : decode cX7_set 32 = .ok (.invokevirtual 98, 3) := by decide +kernel
theorem dX7_set_35 : decode cX7_set 35 = .ok (.invokevirtual 94, 3) := by decide +kernel
theorem dX7_set_38 : decode cX7_set 38 = .ok (.goto 5, 3) := by decide +kernel
theorem dX7_set_41 : decode cX7_set 41 = .ok (.bipush (-3), 2) := by decide +kernel
theorem dX7_set_43 : decode cX7_set 43 = .ok (.ireturn, 1) := by decide +kernel
theorem dX7_remove_0 : decode cX7_remove 0 = .ok (.aload_n 0, 1) := by decide +kernel
theorem dX7_remove_1 : decode cX7_remove 1 = .ok (.iload_n 1, 1) := by decide +kernel
theorem dX7_remove_2 : decode cX7_remove 2 = .ok (.invokevirtual 41, 3) := by decide +kernel
theorem dX7_remove_5 : decode cX7_remove 5 = .ok (.astore 4, 2) := by decide +kernel
theorem dX7_remove_7 : decode cX7_remove 7 = .ok (.aload 4, 2) := by decide +kernel
theorem dX7_remove_9 : decode cX7_remove 9 = .ok (.ifnonnull 6, 3) := by decide +kernel
theorem dX7_remove_12 : decode cX7_remove 12 = .ok (.bipush (-2), 2) := by decide +kernel
theorem dX7_remove_14 : decode cX7_remove 14 = .ok (.ireturn, 1) := by decide +kernel
theorem dX7_remove_15 : decode cX7_remove 15 = .ok (.aload 4, 2) := by decide +kernel
theorem dX7_remove_17 : decode cX7_remove 17 = .ok (.invokevirtual 86, 3) := by decide +kernel
theorem dX7_remove_20 : decode cX7_remove 20 = .ok (.ifCond .eq 19, 3) := by decide +kernel
theorem dX7_remove_23 : decode cX7_remove 23 = .ok (.aload 4, 2) := by decide +kernel
theorem dX7_remove_25 : decode cX7_remove 25 = .ok (.aload_n 0, 1) := by decide +kernel
theorem dX7_remove_26 : decode cX7_remove 26 = .ok (.aload 4, 2) := by decide +kernel
theorem dX7_remove_28 : decode cX7_remove 28 = .ok (.iload_n 2, 1) := by decide +kernel
theorem dX7_remove_29 : decode cX7_remove 29 = .ok (.iload_n 3, 1) := by decide +kernel
theorem dX7_remove_30 : decode cX7_remove 30 = .ok (.invokevirtual 102, 3) := by decide +kernel
theorem dX7_remove_33 : decode cX7_remove 33 = .ok (.invokevirtual 94, 3) := by decide +kernel
theorem dX7_remove_36 : decode cX7_remove 36 = .ok (.goto 5, 3) := by decide +kernel
theorem dX7_remove_39 : decode cX7_remove 39 = .ok (.bipush (-3), 2) := by decide +kernel
theorem dX7_remove_41 : decode cX7_remove 41 = .ok (.ireturn, 1) := by decide +kernel
theorem dX7_own_0 : decode cX7_own 0 = .ok (.aload_n 0, 1) := by decide +kernel
theorem dX7_own_1 : decode cX7_own 1 = .ok (.iload_n 1, 1) := by decide +kernel
theorem dX7_own_2 : decode cX7_own 2 = .ok (.invokevirtual 41, 3) := by decide +kernel
theorem dX7_own_5 : decode cX7_own 5 = .ok (.astore 7, 2) := by decide +kernel
theorem dX7_own_7 : decode cX7_own 7 = .ok (.aload 7, 2) := by decide +kernel
theorem dX7_own_9 : decode cX7_own 9 = .ok (.ifnonnull 6, 3) := by decide +kernel
theorem dX7_own_12 : decode cX7_own 12 = .ok (.bipush (-2), 2) := by decide +kernel
theorem dX7_own_14 : decode cX7_own 14 = .ok (.ireturn, 1) := by decide +kernel
theorem dX7_own_15 : decode cX7_own 15 = .ok (.aload 7, 2) := by decide +kernel
theorem dX7_own_17 : decode cX7_own 17 = .ok (.invokevirtual 86, 3) := by decide +kernel
theorem dX7_own_20 : decode cX7_own 20 = .ok (.ifCond .eq 25, 3) := by decide +kernel
theorem dX7_own_23 : decode cX7_own 23 = .ok (.aload 7, 2) := by decide +kernel
theorem dX7_own_25 : decode cX7_own 25 = .ok (.aload_n 0, 1) := by decide +kernel
theorem dX7_own_26 : decode cX7_own 26 = .ok (.aload 7, 2) := by decide +kernel
theorem dX7_own_28 : decode cX7_own 28 = .ok (.iload_n 2, 1) := by decide +kernel
theorem dX7_own_29 : decode cX7_own 29 = .ok (.iload_n 3, 1) := by decide +kernel
theorem dX7_own_30 : decode cX7_own 30 = .ok (.iload 4, 2) := by decide +kernel
theorem dX7_own_32 : decode cX7_own 32 = .ok (.iload 5, 2) := by decide +kernel
theorem dX7_own_34 : decode cX7_own 34 = .ok (.iload 6, 2) := by decide +kernel
theorem dX7_own_36 : decode cX7_own 36 = .ok (.invokevirtual 105, 3) := by decide +kernel
theorem dX7_own_39 : decode cX7_own 39 = .ok (.invokevirtual 94, 3) := by decide +kernel
theorem dX7_own_42 : decode cX7_own 42 = .ok (.goto 5, 3) := by decide +kernel
theorem dX7_own_45 : decode cX7_own 45 = .ok (.bipush (-3), 2) := by decide +kernel
theorem dX7_own_47 : decode cX7_own 47 = .ok (.ireturn, 1) := by decide +kernel
theorem dX7_room_0 : decode cX7_room 0 = .ok (.aload_n 0, 1) := by decide +kernel
theorem dX7_room_1 : decode cX7_room 1 = .ok (.iload_n 1, 1) := by decide +kernel
theorem dX7_room_2 : decode cX7_room 2 = .ok (.invokevirtual 41, 3) := by decide +kernel
theorem dX7_room_5 : decode cX7_room 5 = .ok (.astore 4, 2) := by decide +kernel
theorem dX7_room_7 : decode cX7_room 7 = .ok (.aload 4, 2) := by decide +kernel
theorem dX7_room_9 : decode cX7_room 9 = .ok (.ifnonnull 6, 3) := by decide +kernel
theorem dX7_room_12 : decode cX7_room 12 = .ok (.bipush (-2), 2) := by decide +kernel
theorem dX7_room_14 : decode cX7_room 14 = .ok (.ireturn, 1) := by decide +kernel
theorem dX7_room_15 : decode cX7_room 15 = .ok (.aload 4, 2) := by decide +kernel
theorem dX7_room_17 : decode cX7_room 17 = .ok (.invokevirtual 86, 3) := by decide +kernel
theorem dX7_room_20 : decode cX7_room 20 = .ok (.ifCond .eq 19, 3) := by decide +kernel
theorem dX7_room_23 : decode cX7_room 23 = .ok (.aload 4, 2) := by decide +kernel
theorem dX7_room_25 : decode cX7_room 25 = .ok (.aload_n 0, 1) := by decide +kernel
theorem dX7_room_26 : decode cX7_room 26 = .ok (.aload 4, 2) := by decide +kernel
theorem dX7_room_28 : decode cX7_room 28 = .ok (.iload_n 2, 1) := by decide +kernel
theorem dX7_room_29 : decode cX7_room 29 = .ok (.iload_n 3, 1) := by decide +kernel
theorem dX7_room_30 : decode cX7_room 30 = .ok (.invokevirtual 109, 3) := by decide +kernel
theorem dX7_room_33 : decode cX7_room 33 = .ok (.invokevirtual 94, 3) := by decide +kernel
theorem dX7_room_36 : decode cX7_room 36 = .ok (.goto 5, 3) := by decide +kernel
theorem dX7_room_39 : decode cX7_room 39 = .ok (.bipush (-3), 2) := by decide +kernel
theorem dX7_room_41 : decode cX7_room 41 = .ok (.ireturn, 1) := by decide +kernel
theorem dX7_send_0 : decode cX7_send 0 = .ok (.aload_n 0, 1) := by decide +kernel
theorem dX7_send_1 : decode cX7_send 1 = .ok (.iload_n 1, 1) := by decide +kernel
theorem dX7_send_2 : decode cX7_send 2 = .ok (.invokevirtual 41, 3) := by decide +kernel
theorem dX7_send_5 : decode cX7_send 5 = .ok (.astore 7, 2) := by decide +kernel
theorem dX7_send_7 : decode cX7_send 7 = .ok (.aload 7, 2) := by decide +kernel
theorem dX7_send_9 : decode cX7_send 9 = .ok (.ifnonnull 6, 3) := by decide +kernel
theorem dX7_send_12 : decode cX7_send 12 = .ok (.bipush (-2), 2) := by decide +kernel
theorem dX7_send_14 : decode cX7_send 14 = .ok (.ireturn, 1) := by decide +kernel
theorem dX7_send_15 : decode cX7_send 15 = .ok (.aload 7, 2) := by decide +kernel
theorem dX7_send_17 : decode cX7_send 17 = .ok (.invokevirtual 86, 3) := by decide +kernel
theorem dX7_send_20 : decode cX7_send 20 = .ok (.ifCond .eq 23, 3) := by decide +kernel
theorem dX7_send_23 : decode cX7_send 23 = .ok (.aload 7, 2) := by decide +kernel
theorem dX7_send_25 : decode cX7_send 25 = .ok (.aload_n 0, 1) := by decide +kernel
theorem dX7_send_26 : decode cX7_send 26 = .ok (.aload 7, 2) := by decide +kernel
theorem dX7_send_28 : decode cX7_send 28 = .ok (.iload_n 2, 1) := by decide +kernel
theorem dX7_send_29 : decode cX7_send 29 = .ok (.lload_n 3, 1) := by decide +kernel
theorem dX7_send_30 : decode cX7_send 30 = .ok (.iload 5, 2) := by decide +kernel
theorem dX7_send_32 : decode cX7_send 32 = .ok (.iload 6, 2) := by decide +kernel
theorem dX7_send_34 : decode cX7_send 34 = .ok (.invokevirtual 112, 3) := by decide +kernel
theorem dX7_send_37 : decode cX7_send 37 = .ok (.invokevirtual 94, 3) := by decide +kernel
theorem dX7_send_40 : decode cX7_send 40 = .ok (.goto 5, 3) := by decide +kernel
theorem dX7_send_43 : decode cX7_send 43 = .ok (.bipush (-3), 2) := by decide +kernel
theorem dX7_send_45 : decode cX7_send 45 = .ok (.ireturn, 1) := by decide +kernel
theorem dX7_take_0 : decode cX7_take 0 = .ok (.aload_n 0, 1) := by decide +kernel
theorem dX7_take_1 : decode cX7_take 1 = .ok (.iload_n 1, 1) := by decide +kernel
theorem dX7_take_2 : decode cX7_take 2 = .ok (.invokevirtual 41, 3) := by decide +kernel
theorem dX7_take_5 : decode cX7_take 5 = .ok (.astore 7, 2) := by decide +kernel
theorem dX7_take_7 : decode cX7_take 7 = .ok (.aload 7, 2) := by decide +kernel
theorem dX7_take_9 : decode cX7_take 9 = .ok (.ifnonnull 6, 3) := by decide +kernel
theorem dX7_take_12 : decode cX7_take 12 = .ok (.bipush (-2), 2) := by decide +kernel
theorem dX7_take_14 : decode cX7_take 14 = .ok (.ireturn, 1) := by decide +kernel
theorem dX7_take_15 : decode cX7_take 15 = .ok (.aload 7, 2) := by decide +kernel
theorem dX7_take_17 : decode cX7_take 17 = .ok (.invokevirtual 86, 3) := by decide +kernel
theorem dX7_take_20 : decode cX7_take 20 = .ok (.ifCond .eq 23, 3) := by decide +kernel
theorem dX7_take_23 : decode cX7_take 23 = .ok (.aload 7, 2) := by decide +kernel
theorem dX7_take_25 : decode cX7_take 25 = .ok (.aload_n 0, 1) := by decide +kernel
theorem dX7_take_26 : decode cX7_take 26 = .ok (.aload 7, 2) := by decide +kernel
theorem dX7_take_28 : decode cX7_take 28 = .ok (.iload_n 2, 1) := by decide +kernel
theorem dX7_take_29 : decode cX7_take 29 = .ok (.iload_n 3, 1) := by decide +kernel
theorem dX7_take_30 : decode cX7_take 30 = .ok (.lload 4, 2) := by decide +kernel
theorem dX7_take_32 : decode cX7_take 32 = .ok (.iload 6, 2) := by decide +kernel
theorem dX7_take_34 : decode cX7_take 34 = .ok (.invokevirtual 116, 3) := by decide +kernel
theorem dX7_take_37 : decode cX7_take 37 = .ok (.invokevirtual 94, 3) := by decide +kernel
theorem dX7_take_40 : decode cX7_take 40 = .ok (.goto 5, 3) := by decide +kernel
theorem dX7_take_43 : decode cX7_take 43 = .ok (.bipush (-3), 2) := by decide +kernel
theorem dX7_take_45 : decode cX7_take 45 = .ok (.ireturn, 1) := by decide +kernel
theorem dX7_step_0 : decode cX7_step 0 = .ok (.aload_n 0, 1) := by decide +kernel
theorem dX7_step_1 : decode cX7_step 1 = .ok (.iload_n 1, 1) := by decide +kernel
theorem dX7_step_2 : decode cX7_step 2 = .ok (.invokevirtual 41, 3) := by decide +kernel
theorem dX7_step_5 : decode cX7_step 5 = .ok (.astore 5, 2) := by decide +kernel
theorem dX7_step_7 : decode cX7_step 7 = .ok (.aload 5, 2) := by decide +kernel
theorem dX7_step_9 : decode cX7_step 9 = .ok (.ifnonnull 6, 3) := by decide +kernel
theorem dX7_step_12 : decode cX7_step 12 = .ok (.bipush (-2), 2) := by decide +kernel
theorem dX7_step_14 : decode cX7_step 14 = .ok (.ireturn, 1) := by decide +kernel
theorem dX7_step_15 : decode cX7_step 15 = .ok (.aload 5, 2) := by decide +kernel
theorem dX7_step_17 : decode cX7_step 17 = .ok (.invokevirtual 86, 3) := by decide +kernel
theorem dX7_step_20 : decode cX7_step 20 = .ok (.ifCond .ne 6, 3) := by decide +kernel
theorem dX7_step_23 : decode cX7_step 23 = .ok (.bipush (-3), 2) := by decide +kernel
theorem dX7_step_25 : decode cX7_step 25 = .ok (.ireturn, 1) := by decide +kernel
theorem dX7_step_26 : decode cX7_step 26 = .ok (.iload_n 3, 1) := by decide +kernel
theorem dX7_step_27 : decode cX7_step 27 = .ok (.sipush (-32767), 3) := by decide +kernel
theorem dX7_step_30 : decode cX7_step 30 = .ok (.if_icmp .lt 14, 3) := by decide +kernel
theorem dX7_step_33 : decode cX7_step 33 = .ok (.iload_n 3, 1) := by decide +kernel
theorem dX7_step_34 : decode cX7_step 34 = .ok (.sipush 32767, 3) := by decide +kernel
theorem dX7_step_37 : decode cX7_step 37 = .ok (.if_icmp .gt 7, 3) := by decide +kernel
theorem dX7_step_40 : decode cX7_step 40 = .ok (.iconst 1, 1) := by decide +kernel
theorem dX7_step_41 : decode cX7_step 41 = .ok (.goto 4, 3) := by decide +kernel
theorem dX7_step_44 : decode cX7_step 44 = .ok (.iconst 0, 1) := by decide +kernel
theorem dX7_step_45 : decode cX7_step 45 = .ok (.istore 6, 2) := by decide +kernel
theorem dX7_step_47 : decode cX7_step 47 = .ok (.iload_n 2, 1) := by decide +kernel
theorem dX7_step_48 : decode cX7_step 48 = .ok (.bipush 7, 2) := by decide +kernel
theorem dX7_step_50 : decode cX7_step 50 = .ok (.invokestatic 34, 3) := by decide +kernel
theorem dX7_step_53 : decode cX7_step 53 = .ok (.ifCond .eq 17, 3) := by decide +kernel
theorem dX7_step_56 : decode cX7_step 56 = .ok (.iload 6, 2) := by decide +kernel
theorem dX7_step_58 : decode cX7_step 58 = .ok (.ifCond .eq 12, 3) := by decide +kernel
theorem dX7_step_61 : decode cX7_step 61 = .ok (.iload 4, 2) := by decide +kernel
theorem dX7_step_63 : decode cX7_step 63 = .ok (.iconst 3, 1) := by decide +kernel
theorem dX7_step_64 : decode cX7_step 64 = .ok (.invokestatic 34, 3) := by decide +kernel
theorem dX7_step_67 : decode cX7_step 67 = .ok (.ifCond .ne 6, 3) := by decide +kernel
theorem dX7_step_70 : decode cX7_step 70 = .ok (.bipush (-4), 2) := by decide +kernel
theorem dX7_step_72 : decode cX7_step 72 = .ok (.ireturn, 1) := by decide +kernel
theorem dX7_step_73 : decode cX7_step 73 = .ok (.aload 5, 2) := by decide +kernel
theorem dX7_step_75 : decode cX7_step 75 = .ok (.getfield 120, 3) := by decide +kernel
theorem dX7_step_78 : decode cX7_step 78 = .ok (.iload_n 2, 1) := by decide +kernel
theorem dX7_step_79 : decode cX7_step 79 = .ok (.iload_n 3, 1) := by decide +kernel
theorem dX7_step_80 : decode cX7_step 80 = .ok (.iload 4, 2) := by decide +kernel
theorem dX7_step_82 : decode cX7_step 82 = .ok (.invokevirtual 124, 3) := by decide +kernel
theorem dX7_step_85 : decode cX7_step 85 = .ok (.ireturn, 1) := by decide +kernel
theorem dX7_steps_0 : decode cX7_steps 0 = .ok (.aload_n 0, 1) := by decide +kernel
theorem dX7_steps_1 : decode cX7_steps 1 = .ok (.iload_n 1, 1) := by decide +kernel
theorem dX7_steps_2 : decode cX7_steps 2 = .ok (.invokevirtual 41, 3) := by decide +kernel
theorem dX7_steps_5 : decode cX7_steps 5 = .ok (.astore_n 3, 1) := by decide +kernel
theorem dX7_steps_6 : decode cX7_steps 6 = .ok (.aload_n 3, 1) := by decide +kernel
theorem dX7_steps_7 : decode cX7_steps 7 = .ok (.ifnonnull 6, 3) := by decide +kernel
theorem dX7_steps_10 : decode cX7_steps 10 = .ok (.bipush (-2), 2) := by decide +kernel
theorem dX7_steps_12 : decode cX7_steps 12 = .ok (.ireturn, 1) := by decide +kernel
theorem dX7_steps_13 : decode cX7_steps 13 = .ok (.aload_n 3, 1) := by decide +kernel
theorem dX7_steps_14 : decode cX7_steps 14 = .ok (.invokevirtual 86, 3) := by decide +kernel
theorem dX7_steps_17 : decode cX7_steps 17 = .ok (.ifCond .eq 16, 3) := by decide +kernel
theorem dX7_steps_20 : decode cX7_steps 20 = .ok (.aload_n 3, 1) := by decide +kernel
theorem dX7_steps_21 : decode cX7_steps 21 = .ok (.aload_n 0, 1) := by decide +kernel
theorem dX7_steps_22 : decode cX7_steps 22 = .ok (.aload_n 3, 1) := by decide +kernel
theorem dX7_steps_23 : decode cX7_steps 23 = .ok (.iload_n 2, 1) := by decide +kernel
theorem dX7_steps_24 : decode cX7_steps 24 = .ok (.invokevirtual 130, 3) := by decide +kernel
theorem dX7_steps_27 : decode cX7_steps 27 = .ok (.invokevirtual 94, 3) := by decide +kernel
theorem dX7_steps_30 : decode cX7_steps 30 = .ok (.goto 5, 3) := by decide +kernel
theorem dX7_steps_33 : decode cX7_steps 33 = .ok (.bipush (-3), 2) := by decide +kernel
theorem dX7_steps_35 : decode cX7_steps 35 = .ok (.ireturn, 1) := by decide +kernel
theorem dX7_value_0 : decode cX7_value 0 = .ok (.aload_n 0, 1) := by decide +kernel
theorem dX7_value_1 : decode cX7_value 1 = .ok (.iload_n 1, 1) := by decide +kernel
theorem dX7_value_2 : decode cX7_value 2 = .ok (.invokevirtual 41, 3) := by decide +kernel
theorem dX7_value_5 : decode cX7_value 5 = .ok (.astore 5, 2) := by decide +kernel
theorem dX7_value_7 : decode cX7_value 7 = .ok (.aload 5, 2) := by decide +kernel
theorem dX7_value_9 : decode cX7_value 9 = .ok (.ifnonnull 6, 3) := by decide +kernel
theorem dX7_value_12 : decode cX7_value 12 = .ok (.bipush (-2), 2) := by decide +kernel
theorem dX7_value_14 : decode cX7_value 14 = .ok (.ireturn, 1) := by decide +kernel
theorem dX7_value_15 : decode cX7_value 15 = .ok (.aload 5, 2) := by decide +kernel
theorem dX7_value_17 : decode cX7_value 17 = .ok (.invokevirtual 86, 3) := by decide +kernel
theorem dX7_value_20 : decode cX7_value 20 = .ok (.ifCond .eq 21, 3) := by decide +kernel
theorem dX7_value_23 : decode cX7_value 23 = .ok (.aload 5, 2) := by decide +kernel
theorem dX7_value_25 : decode cX7_value 25 = .ok (.aload_n 0, 1) := by decide +kernel
theorem dX7_value_26 : decode cX7_value 26 = .ok (.aload 5, 2) := by decide +kernel
theorem dX7_value_28 : decode cX7_value 28 = .ok (.iload_n 2, 1) := by decide +kernel
theorem dX7_value_29 : decode cX7_value 29 = .ok (.iload_n 3, 1) := by decide +kernel
theorem dX7_value_30 : decode cX7_value 30 = .ok (.iload 4, 2) := by decide +kernel
theorem dX7_value_32 : decode cX7_value 32 = .ok (.invokevirtual 134, 3) := by decide +kernel
theorem dX7_value_35 : decode cX7_value 35 = .ok (.invokevirtual 94, 3) := by decide +kernel
theorem dX7_value_38 : decode cX7_value 38 = .ok (.goto 5, 3) := by decide +kernel
theorem dX7_value_41 : decode cX7_value 41 = .ok (.bipush (-3), 2) := by decide +kernel
theorem dX7_value_43 : decode cX7_value 43 = .ok (.ireturn, 1) := by decide +kernel
theorem dX7_queueOf_0 : decode cX7_queueOf 0 = .ok (.iload_n 2, 1) := by decide +kernel
theorem dX7_queueOf_1 : decode cX7_queueOf 1 = .ok (.bipush 11, 2) := by decide +kernel
theorem dX7_queueOf_3 : decode cX7_queueOf 3 = .ok (.invokestatic 34, 3) := by decide +kernel
theorem dX7_queueOf_6 : decode cX7_queueOf 6 = .ok (.ifCond .ne 6, 3) := by decide +kernel
theorem dX7_queueOf_9 : decode cX7_queueOf 9 = .ok (.bipush (-4), 2) := by decide +kernel
theorem dX7_queueOf_11 : decode cX7_queueOf 11 = .ok (.ireturn, 1) := by decide +kernel
theorem dX7_queueOf_12 : decode cX7_queueOf 12 = .ok (.aload_n 0, 1) := by decide +kernel
theorem dX7_queueOf_13 : decode cX7_queueOf 13 = .ok (.iload_n 1, 1) := by decide +kernel
theorem dX7_queueOf_14 : decode cX7_queueOf 14 = .ok (.invokevirtual 137, 3) := by decide +kernel
theorem dX7_queueOf_17 : decode cX7_queueOf 17 = .ok (.astore_n 3, 1) := by decide +kernel
theorem dX7_queueOf_18 : decode cX7_queueOf 18 = .ok (.aload_n 3, 1) := by decide +kernel
theorem dX7_queueOf_19 : decode cX7_queueOf 19 = .ok (.ifnonnull 5, 3) := by decide +kernel
theorem dX7_queueOf_22 : decode cX7_queueOf 22 = .ok (.iconst (-1), 1) := by decide +kernel
theorem dX7_queueOf_23 : decode cX7_queueOf 23 = .ok (.ireturn, 1) := by decide +kernel
theorem dX7_queueOf_24 : decode cX7_queueOf 24 = .ok (.iload_n 2, 1) := by decide +kernel
theorem dX7_queueOf_25 : decode cX7_queueOf 25 = .ok (.tableswitch 64 7 11 #[35, 40, 45, 50, 57], 35) := by decide +kernel
theorem dX7_queueOf_60 : decode cX7_queueOf 60 = .ok (.aload_n 3, 1) := by decide +kernel
theorem dX7_queueOf_61 : decode cX7_queueOf 61 = .ok (.getfield 141, 3) := by decide +kernel
theorem dX7_queueOf_64 : decode cX7_queueOf 64 = .ok (.ireturn, 1) := by decide +kernel
theorem dX7_queueOf_65 : decode cX7_queueOf 65 = .ok (.aload_n 3, 1) := by decide +kernel
theorem dX7_queueOf_66 : decode cX7_queueOf 66 = .ok (.getfield 146, 3) := by decide +kernel
theorem dX7_queueOf_69 : decode cX7_queueOf 69 = .ok (.ireturn, 1) := by decide +kernel
theorem dX7_queueOf_70 : decode cX7_queueOf 70 = .ok (.aload_n 3, 1) := by decide +kernel
theorem dX7_queueOf_71 : decode cX7_queueOf 71 = .ok (.getfield 149, 3) := by decide +kernel
theorem dX7_queueOf_74 : decode cX7_queueOf 74 = .ok (.ireturn, 1) := by decide +kernel
theorem dX7_queueOf_75 : decode cX7_queueOf 75 = .ok (.aload_n 0, 1) := by decide +kernel
theorem dX7_queueOf_76 : decode cX7_queueOf 76 = .ok (.aload_n 3, 1) := by decide +kernel
theorem dX7_queueOf_77 : decode cX7_queueOf 77 = .ok (.iconst 1, 1) := by decide +kernel
theorem dX7_queueOf_78 : decode cX7_queueOf 78 = .ok (.invokevirtual 152, 3) := by decide +kernel
theorem dX7_queueOf_81 : decode cX7_queueOf 81 = .ok (.ireturn, 1) := by decide +kernel
theorem dX7_queueOf_82 : decode cX7_queueOf 82 = .ok (.aload_n 0, 1) := by decide +kernel
theorem dX7_queueOf_83 : decode cX7_queueOf 83 = .ok (.aload_n 3, 1) := by decide +kernel
theorem dX7_queueOf_84 : decode cX7_queueOf 84 = .ok (.iconst 2, 1) := by decide +kernel
theorem dX7_queueOf_85 : decode cX7_queueOf 85 = .ok (.invokevirtual 152, 3) := by decide +kernel
theorem dX7_queueOf_88 : decode cX7_queueOf 88 = .ok (.ireturn, 1) := by decide +kernel
theorem dX7_queueOf_89 : decode cX7_queueOf 89 = .ok (.aload_n 3, 1) := by decide +kernel
theorem dX7_queueOf_90 : decode cX7_queueOf 90 = .ok (.iload_n 2, 1) := by decide +kernel
theorem dX7_queueOf_91 : decode cX7_queueOf 91 = .ok (.invokevirtual 156, 3) := by decide +kernel
theorem dX7_queueOf_94 : decode cX7_queueOf 94 = .ok (.ireturn, 1) := by decide +kernel
theorem dX7_message_0 : decode cX7_message 0 = .ok (.aload_n 0, 1) := by decide +kernel
theorem dX7_message_1 : decode cX7_message 1 = .ok (.iload_n 1, 1) := by decide +kernel
theorem dX7_message_2 : decode cX7_message 2 = .ok (.invokevirtual 137, 3) := by decide +kernel
theorem dX7_message_5 : decode cX7_message 5 = .ok (.astore 4, 2) := by decide +kernel
theorem dX7_message_7 : decode cX7_message 7 = .ok (.aload 4, 2) := by decide +kernel
theorem dX7_message_9 : decode cX7_message 9 = .ok (.ifnonnull 7, 3) := by decide +kernel
theorem dX7_message_12 : decode cX7_message 12 = .ok (.aconst_null, 1) := by decide +kernel
theorem dX7_message_13 : decode cX7_message 13 = .ok (.goto 9, 3) := by decide +kernel
theorem dX7_message_16 : decode cX7_message 16 = .ok (.aload 4, 2) := by decide +kernel
theorem dX7_message_18 : decode cX7_message 18 = .ok (.iload_n 2, 1) := by decide +kernel
theorem dX7_message_19 : decode cX7_message 19 = .ok (.invokevirtual 159, 3) := by decide +kernel
theorem dX7_message_22 : decode cX7_message 22 = .ok (.astore 5, 2) := by decide +kernel
theorem dX7_message_24 : decode cX7_message 24 = .ok (.aload 5, 2) := by decide +kernel
theorem dX7_message_26 : decode cX7_message 26 = .ok (.ifnull 7, 3) := by decide +kernel
theorem dX7_message_29 : decode cX7_message 29 = .ok (.iload_n 3, 1) := by decide +kernel
theorem dX7_message_30 : decode cX7_message 30 = .ok (.ifCond .ge 7, 3) := by decide +kernel
theorem dX7_message_33 : decode cX7_message 33 = .ok (.ldc2_w 163, 3) := by decide +kernel
theorem dX7_message_36 : decode cX7_message 36 = .ok (.lreturn, 1) := by decide +kernel
theorem dX7_message_37 : decode cX7_message 37 = .ok (.iload_n 3, 1) := by decide +kernel
theorem dX7_message_38 : decode cX7_message 38 = .ok (.ifCond .ne 9, 3) := by decide +kernel
theorem dX7_message_41 : decode cX7_message 41 = .ok (.aload 5, 2) := by decide +kernel
theorem dX7_message_43 : decode cX7_message 43 = .ok (.getfield 165, 3) := by decide +kernel
theorem dX7_message_46 : decode cX7_message 46 = .ok (.lreturn, 1) := by decide +kernel
theorem dX7_message_47 : decode cX7_message 47 = .ok (.iload_n 3, 1) := by decide +kernel
theorem dX7_message_48 : decode cX7_message 48 = .ok (.iconst 1, 1) := by decide +kernel
theorem dX7_message_49 : decode cX7_message 49 = .ok (.if_icmp .ne 12, 3) := by decide +kernel
theorem dX7_message_52 : decode cX7_message 52 = .ok (.aload 5, 2) := by decide +kernel
theorem dX7_message_54 : decode cX7_message 54 = .ok (.getfield 170, 3) := by decide +kernel
theorem dX7_message_57 : decode cX7_message 57 = .ok (.i2l, 1) := by decide +kernel
theorem dX7_message_58 : decode cX7_message 58 = .ok (.goto 12, 3) := by decide +kernel
theorem dX7_message_61 : decode cX7_message 61 = .ok (.aload 5, 2) := by decide +kernel
theorem dX7_message_63 : decode cX7_message 63 = .ok (.iload_n 3, 1) := by decide +kernel
theorem dX7_message_64 : decode cX7_message 64 = .ok (.iconst 2, 1) := by decide +kernel
theorem dX7_message_65 : decode cX7_message 65 = .ok (.isub, 1) := by decide +kernel
theorem dX7_message_66 : decode cX7_message 66 = .ok (.invokevirtual 173, 3) := by decide +kernel
theorem dX7_message_69 : decode cX7_message 69 = .ok (.i2l, 1) := by decide +kernel
theorem dX7_message_70 : decode cX7_message 70 = .ok (.lreturn, 1) := by decide +kernel
theorem dX7_setOf_0 : decode cX7_setOf 0 = .ok (.iload_n 2, 1) := by decide +kernel
theorem dX7_setOf_1 : decode cX7_setOf 1 = .ok (.bipush 8, 2) := by decide +kernel
theorem dX7_setOf_3 : decode cX7_setOf 3 = .ok (.invokestatic 34, 3) := by decide +kernel
theorem dX7_setOf_6 : decode cX7_setOf 6 = .ok (.ifCond .ne 6, 3) := by decide +kernel
theorem dX7_setOf_9 : decode cX7_setOf 9 = .ok (.bipush (-4), 2) := by decide +kernel
theorem dX7_setOf_11 : decode cX7_setOf 11 = .ok (.ireturn, 1) := by decide +kernel
theorem dX7_setOf_12 : decode cX7_setOf 12 = .ok (.aload_n 0, 1) := by decide +kernel
theorem dX7_setOf_13 : decode cX7_setOf 13 = .ok (.iload_n 1, 1) := by decide +kernel
theorem dX7_setOf_14 : decode cX7_setOf 14 = .ok (.invokevirtual 56, 3) := by decide +kernel
theorem dX7_setOf_17 : decode cX7_setOf 17 = .ok (.astore_n 3, 1) := by decide +kernel
theorem dX7_setOf_18 : decode cX7_setOf 18 = .ok (.aload_n 3, 1) := by decide +kernel
theorem dX7_setOf_19 : decode cX7_setOf 19 = .ok (.ifnonnull 5, 3) := by decide +kernel
theorem dX7_setOf_22 : decode cX7_setOf 22 = .ok (.iconst (-1), 1) := by decide +kernel
theorem dX7_setOf_23 : decode cX7_setOf 23 = .ok (.ireturn, 1) := by decide +kernel
theorem dX7_setOf_24 : decode cX7_setOf 24 = .ok (.iload_n 2, 1) := by decide +kernel
theorem dX7_setOf_25 : decode cX7_setOf 25 = .ok (.bipush 7, 2) := by decide +kernel
theorem dX7_setOf_27 : decode cX7_setOf 27 = .ok (.if_icmp .ne 8, 3) := by decide +kernel
theorem dX7_setOf_30 : decode cX7_setOf 30 = .ok (.aload_n 3, 1) := by decide +kernel
theorem dX7_setOf_31 : decode cX7_setOf 31 = .ok (.getfield 176, 3) := by decide +kernel
theorem dX7_setOf_34 : decode cX7_setOf 34 = .ok (.ireturn, 1) := by decide +kernel
theorem dX7_setOf_35 : decode cX7_setOf 35 = .ok (.iload_n 2, 1) := by decide +kernel
theorem dX7_setOf_36 : decode cX7_setOf 36 = .ok (.bipush 8, 2) := by decide +kernel
theorem dX7_setOf_38 : decode cX7_setOf 38 = .ok (.if_icmp .ne 12, 3) := by decide +kernel
theorem dX7_setOf_41 : decode cX7_setOf 41 = .ok (.aload_n 0, 1) := by decide +kernel
theorem dX7_setOf_42 : decode cX7_setOf 42 = .ok (.aload_n 3, 1) := by decide +kernel
theorem dX7_setOf_43 : decode cX7_setOf 43 = .ok (.iconst 3, 1) := by decide +kernel
theorem dX7_setOf_44 : decode cX7_setOf 44 = .ok (.invokevirtual 152, 3) := by decide +kernel
theorem dX7_setOf_47 : decode cX7_setOf 47 = .ok (.goto 8, 3) := by decide +kernel
theorem dX7_setOf_50 : decode cX7_setOf 50 = .ok (.aload_n 3, 1) := by decide +kernel
theorem dX7_setOf_51 : decode cX7_setOf 51 = .ok (.iload_n 2, 1) := by decide +kernel
theorem dX7_setOf_52 : decode cX7_setOf 52 = .ok (.invokevirtual 177, 3) := by decide +kernel
theorem dX7_setOf_55 : decode cX7_setOf 55 = .ok (.ireturn, 1) := by decide +kernel
theorem dX7_counter_0 : decode cX7_counter 0 = .ok (.iload_n 3, 1) := by decide +kernel
theorem dX7_counter_1 : decode cX7_counter 1 = .ok (.iconst 3, 1) := by decide +kernel
theorem dX7_counter_2 : decode cX7_counter 2 = .ok (.invokestatic 34, 3) := by decide +kernel
theorem dX7_counter_5 : decode cX7_counter 5 = .ok (.ifCond .ne 6, 3) := by decide +kernel
theorem dX7_counter_8 : decode cX7_counter 8 = .ok (.bipush (-4), 2) := by decide +kernel
theorem dX7_counter_10 : decode cX7_counter 10 = .ok (.ireturn, 1) := by decide +kernel
theorem dX7_counter_11 : decode cX7_counter 11 = .ok (.aload_n 0, 1) := by decide +kernel
theorem dX7_counter_12 : decode cX7_counter 12 = .ok (.iload_n 1, 1) := by decide +kernel
theorem dX7_counter_13 : decode cX7_counter 13 = .ok (.invokevirtual 56, 3) := by decide +kernel
theorem dX7_counter_16 : decode cX7_counter 16 = .ok (.astore 4, 2) := by decide +kernel
theorem dX7_counter_18 : decode cX7_counter 18 = .ok (.aload 4, 2) := by decide +kernel
theorem dX7_counter_20 : decode cX7_counter 20 = .ok (.ifnull 12, 3) := by decide +kernel
theorem dX7_counter_23 : decode cX7_counter 23 = .ok (.aload 4, 2) := by decide +kernel
theorem dX7_counter_25 : decode cX7_counter 25 = .ok (.iload_n 2, 1) := by decide +kernel
theorem dX7_counter_26 : decode cX7_counter 26 = .ok (.invokevirtual 178, 3) := by decide +kernel
theorem dX7_counter_29 : decode cX7_counter 29 = .ok (.ifCond .ne 5, 3) := by decide +kernel
theorem dX7_counter_32 : decode cX7_counter 32 = .ok (.iconst (-1), 1) := by decide +kernel
theorem dX7_counter_33 : decode cX7_counter 33 = .ok (.ireturn, 1) := by decide +kernel
theorem dX7_counter_34 : decode cX7_counter 34 = .ok (.iload_n 3, 1) := by decide +kernel
theorem dX7_counter_35 : decode cX7_counter 35 = .ok (.ifCond .ne 11, 3) := by decide +kernel
theorem dX7_counter_38 : decode cX7_counter 38 = .ok (.aload 4, 2) := by decide +kernel
theorem dX7_counter_40 : decode cX7_counter 40 = .ok (.getfield 181, 3) := by decide +kernel
theorem dX7_counter_43 : decode cX7_counter 43 = .ok (.iload_n 2, 1) := by decide +kernel
theorem dX7_counter_44 : decode cX7_counter 44 = .ok (.iaload, 1) := by decide +kernel
theorem dX7_counter_45 : decode cX7_counter 45 = .ok (.ireturn, 1) := by decide +kernel
theorem dX7_counter_46 : decode cX7_counter 46 = .ok (.iload_n 3, 1) := by decide +kernel
theorem dX7_counter_47 : decode cX7_counter 47 = .ok (.iconst 1, 1) := by decide +kernel
theorem dX7_counter_48 : decode cX7_counter 48 = .ok (.if_icmp .ne 13, 3) := by decide +kernel
theorem dX7_counter_51 : decode cX7_counter 51 = .ok (.aload 4, 2) := by decide +kernel
theorem dX7_counter_53 : decode cX7_counter 53 = .ok (.getfield 184, 3) := by decide +kernel
theorem dX7_counter_56 : decode cX7_counter 56 = .ok (.iload_n 2, 1) := by decide +kernel
theorem dX7_counter_57 : decode cX7_counter 57 = .ok (.iaload, 1) := by decide +kernel
theorem dX7_counter_58 : decode cX7_counter 58 = .ok (.goto 20, 3) := by decide +kernel
theorem dX7_counter_61 : decode cX7_counter 61 = .ok (.aload_n 0, 1) := by decide +kernel
theorem dX7_counter_62 : decode cX7_counter 62 = .ok (.aload 4, 2) := by decide +kernel
theorem dX7_counter_64 : decode cX7_counter 64 = .ok (.iload_n 2, 1) := by decide +kernel
theorem dX7_counter_65 : decode cX7_counter 65 = .ok (.iload_n 3, 1) := by decide +kernel
theorem dX7_counter_66 : decode cX7_counter 66 = .ok (.iconst 3, 1) := by decide +kernel
theorem dX7_counter_67 : decode cX7_counter 67 = .ok (.if_icmp .ne 7, 3) := by decide +kernel
theorem dX7_counter_70 : decode cX7_counter 70 = .ok (.iconst 1, 1) := by decide +kernel
theorem dX7_counter_71 : decode cX7_counter 71 = .ok (.goto 4, 3) := by decide +kernel
theorem dX7_counter_74 : decode cX7_counter 74 = .ok (.iconst 0, 1) := by decide +kernel
theorem dX7_counter_75 : decode cX7_counter 75 = .ok (.invokevirtual 187, 3) := by decide +kernel
theorem dX7_counter_78 : decode cX7_counter 78 = .ok (.ireturn, 1) := by decide +kernel
theorem dX7_undo_0 : decode cX7_undo 0 = .ok (.aload_n 0, 1) := by decide +kernel
theorem dX7_undo_1 : decode cX7_undo 1 = .ok (.iload_n 1, 1) := by decide +kernel
theorem dX7_undo_2 : decode cX7_undo 2 = .ok (.invokevirtual 41, 3) := by decide +kernel
theorem dX7_undo_5 : decode cX7_undo 5 = .ok (.astore 4, 2) := by decide +kernel
theorem dX7_undo_7 : decode cX7_undo 7 = .ok (.aload_n 0, 1) := by decide +kernel
theorem dX7_undo_8 : decode cX7_undo 8 = .ok (.iload_n 2, 1) := by decide +kernel
theorem dX7_undo_9 : decode cX7_undo 9 = .ok (.invokevirtual 56, 3) := by decide +kernel
theorem dX7_undo_12 : decode cX7_undo 12 = .ok (.astore 5, 2) := by decide +kernel
theorem dX7_undo_14 : decode cX7_undo 14 = .ok (.aload 4, 2) := by decide +kernel
theorem dX7_undo_16 : decode cX7_undo 16 = .ok (.ifnull 8, 3) := by decide +kernel
theorem dX7_undo_19 : decode cX7_undo 19 = .ok (.aload 5, 2) := by decide +kernel
theorem dX7_undo_21 : decode cX7_undo 21 = .ok (.ifnonnull 7, 3) := by decide +kernel
theorem dX7_undo_24 : decode cX7_undo 24 = .ok (.iconst 0, 1) := by decide +kernel
theorem dX7_undo_25 : decode cX7_undo 25 = .ok (.goto 14, 3) := by decide +kernel
theorem dX7_undo_28 : decode cX7_undo 28 = .ok (.aload 5, 2) := by decide +kernel
theorem dX7_undo_30 : decode cX7_undo 30 = .ok (.aload 4, 2) := by decide +kernel
theorem dX7_undo_32 : decode cX7_undo 32 = .ok (.getfield 60, 3) := by decide +kernel
theorem dX7_undo_35 : decode cX7_undo 35 = .ok (.iload_n 3, 1) := by decide +kernel
theorem dX7_undo_36 : decode cX7_undo 36 = .ok (.invokevirtual 191, 3) := by decide +kernel
theorem dX7_undo_39 : decode cX7_undo 39 = .ok (.ireturn, 1) := by decide +kernel
theorem dX7_count_0 : decode cX7_count 0 = .ok (.iload_n 1, 1) := by decide +kernel
theorem dX7_count_1 : decode cX7_count 1 = .ok (.tableswitch 84 0 6 #[43, 48, 53, 58, 66, 74, 79], 43) := by decide +kernel
theorem dX7_count_44 : decode cX7_count 44 = .ok (.aload_n 0, 1) := by decide +kernel
theorem dX7_count_45 : decode cX7_count 45 = .ok (.getfield 15, 3) := by decide +kernel
theorem dX7_count_48 : decode cX7_count 48 = .ok (.ireturn, 1) := by decide +kernel
theorem dX7_count_49 : decode cX7_count 49 = .ok (.aload_n 0, 1) := by decide +kernel
theorem dX7_count_50 : decode cX7_count 50 = .ok (.invokevirtual 195, 3) := by decide +kernel
theorem dX7_count_53 : decode cX7_count 53 = .ok (.ireturn, 1) := by decide +kernel
theorem dX7_count_54 : decode cX7_count 54 = .ok (.aload_n 0, 1) := by decide +kernel
theorem dX7_count_55 : decode cX7_count 55 = .ok (.getfield 31, 3) := by decide +kernel
theorem dX7_count_58 : decode cX7_count 58 = .ok (.ireturn, 1) := by decide +kernel
theorem dX7_count_59 : decode cX7_count 59 = .ok (.aload_n 0, 1) := by decide +kernel
theorem dX7_count_60 : decode cX7_count 60 = .ok (.getfield 21, 3) := by decide +kernel
theorem dX7_count_63 : decode cX7_count 63 = .ok (.invokestatic 199, 3) := by decide +kernel
theorem dX7_count_66 : decode cX7_count 66 = .ok (.ireturn, 1) := by decide +kernel
theorem dX7_count_67 : decode cX7_count 67 = .ok (.aload_n 0, 1) := by decide +kernel
theorem dX7_count_68 : decode cX7_count 68 = .ok (.getfield 25, 3) := by decide +kernel
theorem dX7_count_71 : decode cX7_count 71 = .ok (.invokestatic 199, 3) := by decide +kernel
theorem dX7_count_74 : decode cX7_count 74 = .ok (.ireturn, 1) := by decide +kernel
theorem dX7_count_75 : decode cX7_count 75 = .ok (.aload_n 0, 1) := by decide +kernel
theorem dX7_count_76 : decode cX7_count 76 = .ok (.invokevirtual 203, 3) := by decide +kernel
theorem dX7_count_79 : decode cX7_count 79 = .ok (.ireturn, 1) := by decide +kernel
theorem dX7_count_80 : decode cX7_count 80 = .ok (.aload_n 0, 1) := by decide +kernel
theorem dX7_count_81 : decode cX7_count 81 = .ok (.invokevirtual 206, 3) := by decide +kernel
theorem dX7_count_84 : decode cX7_count 84 = .ok (.ireturn, 1) := by decide +kernel
theorem dX7_count_85 : decode cX7_count 85 = .ok (.bipush (-4), 2) := by decide +kernel
theorem dX7_count_87 : decode cX7_count 87 = .ok (.ireturn, 1) := by decide +kernel
theorem dX7_isWithin_0 : decode cX7_isWithin 0 = .ok (.iload_n 0, 1) := by decide +kernel
theorem dX7_isWithin_1 : decode cX7_isWithin 1 = .ok (.ifCond .lt 12, 3) := by decide +kernel
theorem dX7_isWithin_4 : decode cX7_isWithin 4 = .ok (.iload_n 0, 1) := by decide +kernel
theorem dX7_isWithin_5 : decode cX7_isWithin 5 = .ok (.iload_n 1, 1) := by decide +kernel
theorem dX7_isWithin_6 : decode cX7_isWithin 6 = .ok (.if_icmp .gt 7, 3) := by decide +kernel
theorem dX7_isWithin_9 : decode cX7_isWithin 9 = .ok (.iconst 1, 1) := by decide +kernel
theorem dX7_isWithin_10 : decode cX7_isWithin 10 = .ok (.goto 4, 3) := by decide +kernel
theorem dX7_isWithin_13 : decode cX7_isWithin 13 = .ok (.iconst 0, 1) := by decide +kernel
theorem dX7_isWithin_14 : decode cX7_isWithin 14 = .ok (.ireturn, 1) := by decide +kernel
theorem dX7_processAt_0 : decode cX7_processAt 0 = .ok (.iload_n 1, 1) := by decide +kernel
theorem dX7_processAt_1 : decode cX7_processAt 1 = .ok (.bipush 15, 2) := by decide +kernel
theorem dX7_processAt_3 : decode cX7_processAt 3 = .ok (.invokestatic 34, 3) := by decide +kernel
theorem dX7_processAt_6 : decode cX7_processAt 6 = .ok (.ifCond .eq 12, 3) := by decide +kernel
theorem dX7_processAt_9 : decode cX7_processAt 9 = .ok (.aload_n 0, 1) := by decide +kernel
theorem dX7_processAt_10 : decode cX7_processAt 10 = .ok (.getfield 11, 3) := by decide +kernel

theorem dX7_init_0 : decode cX7_init 0 = .ok (.aload_n 0, 1) := by decide +kernel
theorem dX7_init_1 : decode cX7_init 1 = .ok (.invokespecial 3, 3) := by decide +kernel
theorem dX7_init_4 : decode cX7_init 4 = .ok (.aload_n 0, 1) := by decide +kernel
theorem dX7_init_5 : decode cX7_init 5 = .ok (.bipush 39, 2) := by decide +kernel
theorem dX7_init_7 : decode cX7_init 7 = .ok (.newarray .int, 2) := by decide +kernel
theorem dX7_init_9 : decode cX7_init 9 = .ok (.putfield 9, 3) := by decide +kernel
theorem dX7_init_12 : decode cX7_init 12 = .ok (.aload_n 0, 1) := by decide +kernel
theorem dX7_init_13 : decode cX7_init 13 = .ok (.iconst (-1), 1) := by decide +kernel
theorem dX7_init_14 : decode cX7_init 14 = .ok (.putfield 13, 3) := by decide +kernel
theorem dX7_init_17 : decode cX7_init 17 = .ok (.aload_n 0, 1) := by decide +kernel
theorem dX7_init_18 : decode cX7_init 18 = .ok (.new 17, 3) := by decide +kernel
theorem dX7_init_21 : decode cX7_init 21 = .ok (.dup, 1) := by decide +kernel
theorem dX7_init_22 : decode cX7_init 22 = .ok (.invokespecial 19, 3) := by decide +kernel
theorem dX7_init_25 : decode cX7_init 25 = .ok (.putfield 20, 3) := by decide +kernel
theorem dX7_init_28 : decode cX7_init 28 = .ok (.aload_n 0, 1) := by decide +kernel
theorem dX7_init_29 : decode cX7_init 29 = .ok (.new 17, 3) := by decide +kernel
theorem dX7_init_32 : decode cX7_init 32 = .ok (.dup, 1) := by decide +kernel
theorem dX7_init_33 : decode cX7_init 33 = .ok (.invokespecial 19, 3) := by decide +kernel
theorem dX7_init_36 : decode cX7_init 36 = .ok (.putfield 24, 3) := by decide +kernel
theorem dX7_init_39 : decode cX7_init 39 = .ok (.aload_n 0, 1) := by decide +kernel
theorem dX7_init_40 : decode cX7_init 40 = .ok (.new 27, 3) := by decide +kernel
theorem dX7_init_43 : decode cX7_init 43 = .ok (.dup, 1) := by decide +kernel
theorem dX7_init_44 : decode cX7_init 44 = .ok (.invokespecial 29, 3) := by decide +kernel
theorem dX7_init_47 : decode cX7_init 47 = .ok (.putfield 30, 3) := by decide +kernel
theorem dX7_init_50 : decode cX7_init 50 = .ok (.aload_n 0, 1) := by decide +kernel
theorem dX7_init_51 : decode cX7_init 51 = .ok (.new 27, 3) := by decide +kernel
theorem dX7_init_54 : decode cX7_init 54 = .ok (.dup, 1) := by decide +kernel
theorem dX7_init_55 : decode cX7_init 55 = .ok (.invokespecial 29, 3) := by decide +kernel
theorem dX7_init_58 : decode cX7_init 58 = .ok (.putfield 34, 3) := by decide +kernel
theorem dX7_init_61 : decode cX7_init 61 = .ok (.aload_n 0, 1) := by decide +kernel
theorem dX7_init_62 : decode cX7_init 62 = .ok (.new 37, 3) := by decide +kernel
theorem dX7_init_65 : decode cX7_init 65 = .ok (.dup, 1) := by decide +kernel
theorem dX7_init_66 : decode cX7_init 66 = .ok (.invokespecial 39, 3) := by decide +kernel
theorem dX7_init_69 : decode cX7_init 69 = .ok (.putfield 40, 3) := by decide +kernel
theorem dX7_init_72 : decode cX7_init 72 = .ok (.aload_n 0, 1) := by decide +kernel
theorem dX7_init_73 : decode cX7_init 73 = .ok (.new 44, 3) := by decide +kernel
theorem dX7_init_76 : decode cX7_init 76 = .ok (.dup, 1) := by decide +kernel
theorem dX7_init_77 : decode cX7_init 77 = .ok (.invokespecial 46, 3) := by decide +kernel
theorem dX7_init_80 : decode cX7_init 80 = .ok (.putfield 47, 3) := by decide +kernel
theorem dX7_init_83 : decode cX7_init 83 = .ok (.aload_n 0, 1) := by decide +kernel
theorem dX7_init_84 : decode cX7_init 84 = .ok (.new 51, 3) := by decide +kernel
theorem dX7_init_87 : decode cX7_init 87 = .ok (.dup, 1) := by decide +kernel
theorem dX7_init_88 : decode cX7_init 88 = .ok (.invokespecial 53, 3) := by decide +kernel
theorem dX7_init_91 : decode cX7_init 91 = .ok (.putfield 54, 3) := by decide +kernel
theorem dX7_init_94 : decode cX7_init 94 = .ok (.aload_n 0, 1) := by decide +kernel
theorem dX7_init_95 : decode cX7_init 95 = .ok (.new 58, 3) := by decide +kernel
theorem dX7_init_98 : decode cX7_init 98 = .ok (.dup, 1) := by decide +kernel
theorem dX7_init_99 : decode cX7_init 99 = .ok (.invokespecial 60, 3) := by decide +kernel
theorem dX7_init_102 : decode cX7_init 102 = .ok (.putfield 61, 3) := by decide +kernel
theorem dX7_init_105 : decode cX7_init 105 = .ok (.aload_n 0, 1) := by decide +kernel
theorem dX7_init_106 : decode cX7_init 106 = .ok (.iconst 4, 1) := by decide +kernel
theorem dX7_init_107 : decode cX7_init 107 = .ok (.anewarray 65, 3) := by decide +kernel
theorem dX7_init_110 : decode cX7_init 110 = .ok (.putfield 67, 3) := by decide +kernel
theorem dX7_init_113 : decode cX7_init 113 = .ok (.iconst 0, 1) := by decide +kernel
theorem dX7_init_114 : decode cX7_init 114 = .ok (.istore_n 1, 1) := by decide +kernel
theorem dX7_init_115 : decode cX7_init 115 = .ok (.iload_n 1, 1) := by decide +kernel
theorem dX7_init_116 : decode cX7_init 116 = .ok (.iconst 4, 1) := by decide +kernel
theorem dX7_init_117 : decode cX7_init 117 = .ok (.if_icmp .ge 22, 3) := by decide +kernel
theorem dX7_init_120 : decode cX7_init 120 = .ok (.aload_n 0, 1) := by decide +kernel
theorem dX7_init_121 : decode cX7_init 121 = .ok (.getfield 67, 3) := by decide +kernel
theorem dX7_init_124 : decode cX7_init 124 = .ok (.iload_n 1, 1) := by decide +kernel
theorem dX7_init_125 : decode cX7_init 125 = .ok (.new 65, 3) := by decide +kernel
theorem dX7_init_128 : decode cX7_init 128 = .ok (.dup, 1) := by decide +kernel
theorem dX7_init_129 : decode cX7_init 129 = .ok (.invokespecial 71, 3) := by decide +kernel
theorem dX7_init_132 : decode cX7_init 132 = .ok (.aastore, 1) := by decide +kernel
theorem dX7_init_133 : decode cX7_init 133 = .ok (.iinc 1 1, 3) := by decide +kernel
theorem dX7_init_136 : decode cX7_init 136 = .ok (.goto (-21), 3) := by decide +kernel
theorem dX7_init_139 : decode cX7_init 139 = .ok (.return_, 1) := by decide +kernel
theorem dX7_type_0 : decode cX7_type 0 = .ok (.iload_n 1, 1) := by decide +kernel
theorem dX7_type_1 : decode cX7_type 1 = .ok (.iconst 0, 1) := by decide +kernel
theorem dX7_type_2 : decode cX7_type 2 = .ok (.sipush 255, 3) := by decide +kernel
theorem dX7_type_5 : decode cX7_type 5 = .ok (.invokestatic 72, 3) := by decide +kernel
theorem dX7_type_8 : decode cX7_type 8 = .ok (.ifCond .ne 6, 3) := by decide +kernel
theorem dX7_type_11 : decode cX7_type 11 = .ok (.bipush (-2), 2) := by decide +kernel
theorem dX7_type_13 : decode cX7_type 13 = .ok (.ireturn, 1) := by decide +kernel
theorem dX7_type_14 : decode cX7_type 14 = .ok (.aload_n 0, 1) := by decide +kernel
theorem dX7_type_15 : decode cX7_type 15 = .ok (.getfield 76, 3) := by decide +kernel
theorem dX7_type_18 : decode cX7_type 18 = .ok (.bipush 39, 2) := by decide +kernel
theorem dX7_type_20 : decode cX7_type 20 = .ok (.if_icmp .lt 6, 3) := by decide +kernel
theorem dX7_type_23 : decode cX7_type 23 = .ok (.bipush (-4), 2) := by decide +kernel
theorem dX7_type_25 : decode cX7_type 25 = .ok (.ireturn, 1) := by decide +kernel
theorem dX7_type_26 : decode cX7_type 26 = .ok (.aload_n 0, 1) := by decide +kernel
theorem dX7_type_27 : decode cX7_type 27 = .ok (.getfield 9, 3) := by decide +kernel
theorem dX7_type_30 : decode cX7_type 30 = .ok (.aload_n 0, 1) := by decide +kernel
theorem dX7_type_31 : decode cX7_type 31 = .ok (.getfield 76, 3) := by decide +kernel
theorem dX7_type_34 : decode cX7_type 34 = .ok (.iload_n 1, 1) := by decide +kernel
theorem dX7_type_35 : decode cX7_type 35 = .ok (.iastore, 1) := by decide +kernel
theorem dX7_type_36 : decode cX7_type 36 = .ok (.aload_n 0, 1) := by decide +kernel
theorem dX7_type_37 : decode cX7_type 37 = .ok (.dup, 1) := by decide +kernel
theorem dX7_type_38 : decode cX7_type 38 = .ok (.getfield 76, 3) := by decide +kernel
theorem dX7_type_41 : decode cX7_type 41 = .ok (.iconst 1, 1) := by decide +kernel
theorem dX7_type_42 : decode cX7_type 42 = .ok (.iadd, 1) := by decide +kernel
theorem dX7_type_43 : decode cX7_type 43 = .ok (.putfield 76, 3) := by decide +kernel
theorem dX7_type_46 : decode cX7_type 46 = .ok (.aload_n 0, 1) := by decide +kernel
theorem dX7_type_47 : decode cX7_type 47 = .ok (.invokevirtual 79, 3) := by decide +kernel
theorem dX7_type_50 : decode cX7_type 50 = .ok (.aload_n 0, 1) := by decide +kernel
theorem dX7_type_51 : decode cX7_type 51 = .ok (.getfield 76, 3) := by decide +kernel
theorem dX7_type_54 : decode cX7_type 54 = .ok (.ireturn, 1) := by decide +kernel
theorem dX7_wipe_0 : decode cX7_wipe 0 = .ok (.aload_n 0, 1) := by decide +kernel
theorem dX7_wipe_1 : decode cX7_wipe 1 = .ok (.getfield 76, 3) := by decide +kernel
theorem dX7_wipe_4 : decode cX7_wipe 4 = .ok (.istore_n 1, 1) := by decide +kernel
theorem dX7_wipe_5 : decode cX7_wipe 5 = .ok (.aload_n 0, 1) := by decide +kernel
theorem dX7_wipe_6 : decode cX7_wipe 6 = .ok (.iconst 0, 1) := by decide +kernel
theorem dX7_wipe_7 : decode cX7_wipe 7 = .ok (.putfield 76, 3) := by decide +kernel
theorem dX7_wipe_10 : decode cX7_wipe 10 = .ok (.aload_n 0, 1) := by decide +kernel
theorem dX7_wipe_11 : decode cX7_wipe 11 = .ok (.invokevirtual 79, 3) := by decide +kernel
theorem dX7_wipe_14 : decode cX7_wipe 14 = .ok (.iload_n 1, 1) := by decide +kernel
theorem dX7_wipe_15 : decode cX7_wipe 15 = .ok (.ireturn, 1) := by decide +kernel
theorem dX7_undo_0 : decode cX7_undo 0 = .ok (.aload_n 0, 1) := by decide +kernel
theorem dX7_undo_1 : decode cX7_undo 1 = .ok (.getfield 76, 3) := by decide +kernel
theorem dX7_undo_4 : decode cX7_undo 4 = .ok (.ifCond .ne 6, 3) := by decide +kernel
theorem dX7_undo_7 : decode cX7_undo 7 = .ok (.bipush (-3), 2) := by decide +kernel
theorem dX7_undo_9 : decode cX7_undo 9 = .ok (.ireturn, 1) := by decide +kernel
theorem dX7_undo_10 : decode cX7_undo 10 = .ok (.aload_n 0, 1) := by decide +kernel
theorem dX7_undo_11 : decode cX7_undo 11 = .ok (.dup, 1) := by decide +kernel
theorem dX7_undo_12 : decode cX7_undo 12 = .ok (.getfield 76, 3) := by decide +kernel
theorem dX7_undo_15 : decode cX7_undo 15 = .ok (.iconst 1, 1) := by decide +kernel
theorem dX7_undo_16 : decode cX7_undo 16 = .ok (.isub, 1) := by decide +kernel
theorem dX7_undo_17 : decode cX7_undo 17 = .ok (.putfield 76, 3) := by decide +kernel
theorem dX7_undo_20 : decode cX7_undo 20 = .ok (.aload_n 0, 1) := by decide +kernel
theorem dX7_undo_21 : decode cX7_undo 21 = .ok (.invokevirtual 79, 3) := by decide +kernel
theorem dX7_undo_24 : decode cX7_undo 24 = .ok (.aload_n 0, 1) := by decide +kernel
theorem dX7_undo_25 : decode cX7_undo 25 = .ok (.getfield 76, 3) := by decide +kernel
theorem dX7_undo_28 : decode cX7_undo 28 = .ok (.ireturn, 1) := by decide +kernel
theorem dX7_fault_0 : decode cX7_fault 0 = .ok (.aload_n 0, 1) := by decide +kernel
theorem dX7_fault_1 : decode cX7_fault 1 = .ok (.getfield 13, 3) := by decide +kernel
theorem dX7_fault_4 : decode cX7_fault 4 = .ok (.ireturn, 1) := by decide +kernel
theorem dX7_couple_0 : decode cX7_couple 0 = .ok (.aload_n 0, 1) := by decide +kernel
theorem dX7_couple_1 : decode cX7_couple 1 = .ok (.getfield 20, 3) := by decide +kernel
theorem dX7_couple_4 : decode cX7_couple 4 = .ok (.iload_n 1, 1) := by decide +kernel
theorem dX7_couple_5 : decode cX7_couple 5 = .ok (.invokevirtual 82, 3) := by decide +kernel
theorem dX7_couple_8 : decode cX7_couple 8 = .ok (.ifCond .ne 6, 3) := by decide +kernel
theorem dX7_couple_11 : decode cX7_couple 11 = .ok (.bipush (-2), 2) := by decide +kernel
theorem dX7_couple_13 : decode cX7_couple 13 = .ok (.ireturn, 1) := by decide +kernel
theorem dX7_couple_14 : decode cX7_couple 14 = .ok (.iload_n 2, 1) := by decide +kernel
theorem dX7_couple_15 : decode cX7_couple 15 = .ok (.tableswitch 69 0 3 #[29, 39, 49, 59], 29) := by decide +kernel
theorem dX7_couple_44 : decode cX7_couple 44 = .ok (.aload_n 0, 1) := by decide +kernel
theorem dX7_couple_45 : decode cX7_couple 45 = .ok (.getfield 20, 3) := by decide +kernel
theorem dX7_couple_48 : decode cX7_couple 48 = .ok (.getfield 86, 3) := by decide +kernel
theorem dX7_couple_51 : decode cX7_couple 51 = .ok (.iload_n 1, 1) := by decide +kernel
theorem dX7_couple_52 : decode cX7_couple 52 = .ok (.iaload, 1) := by decide +kernel
theorem dX7_couple_53 : decode cX7_couple 53 = .ok (.ireturn, 1) := by decide +kernel
theorem dX7_couple_54 : decode cX7_couple 54 = .ok (.aload_n 0, 1) := by decide +kernel
theorem dX7_couple_55 : decode cX7_couple 55 = .ok (.getfield 20, 3) := by decide +kernel
theorem dX7_couple_58 : decode cX7_couple 58 = .ok (.getfield 89, 3) := by decide +kernel
theorem dX7_couple_61 : decode cX7_couple 61 = .ok (.iload_n 1, 1) := by decide +kernel
theorem dX7_couple_62 : decode cX7_couple 62 = .ok (.iaload, 1) := by decide +kernel
theorem dX7_couple_63 : decode cX7_couple 63 = .ok (.ireturn, 1) := by decide +kernel
theorem dX7_couple_64 : decode cX7_couple 64 = .ok (.aload_n 0, 1) := by decide +kernel
theorem dX7_couple_65 : decode cX7_couple 65 = .ok (.getfield 20, 3) := by decide +kernel
theorem dX7_couple_68 : decode cX7_couple 68 = .ok (.getfield 92, 3) := by decide +kernel
theorem dX7_couple_71 : decode cX7_couple 71 = .ok (.iload_n 1, 1) := by decide +kernel
theorem dX7_couple_72 : decode cX7_couple 72 = .ok (.iaload, 1) := by decide +kernel
theorem dX7_couple_73 : decode cX7_couple 73 = .ok (.ireturn, 1) := by decide +kernel
theorem dX7_couple_74 : decode cX7_couple 74 = .ok (.aload_n 0, 1) := by decide +kernel
theorem dX7_couple_75 : decode cX7_couple 75 = .ok (.getfield 20, 3) := by decide +kernel
theorem dX7_couple_78 : decode cX7_couple 78 = .ok (.getfield 95, 3) := by decide +kernel
theorem dX7_couple_81 : decode cX7_couple 81 = .ok (.iload_n 1, 1) := by decide +kernel
theorem dX7_couple_82 : decode cX7_couple 82 = .ok (.iaload, 1) := by decide +kernel
theorem dX7_couple_83 : decode cX7_couple 83 = .ok (.ireturn, 1) := by decide +kernel
theorem dX7_couple_84 : decode cX7_couple 84 = .ok (.bipush (-2), 2) := by decide +kernel
theorem dX7_couple_86 : decode cX7_couple 86 = .ok (.ireturn, 1) := by decide +kernel
theorem dX7_event_0 : decode cX7_event 0 = .ok (.iload_n 1, 1) := by decide +kernel
theorem dX7_event_1 : decode cX7_event 1 = .ok (.iload_n 2, 1) := by decide +kernel
theorem dX7_event_2 : decode cX7_event 2 = .ok (.iload_n 3, 1) := by decide +kernel
theorem dX7_event_3 : decode cX7_event 3 = .ok (.iload 4, 2) := by decide +kernel
theorem dX7_event_5 : decode cX7_event 5 = .ok (.invokestatic 98, 3) := by decide +kernel
theorem dX7_event_8 : decode cX7_event 8 = .ok (.ifCond .ne 6, 3) := by decide +kernel
theorem dX7_event_11 : decode cX7_event 11 = .ok (.bipush (-2), 2) := by decide +kernel
theorem dX7_event_13 : decode cX7_event 13 = .ok (.ireturn, 1) := by decide +kernel
theorem dX7_event_14 : decode cX7_event 14 = .ok (.aload_n 0, 1) := by decide +kernel
theorem dX7_event_15 : decode cX7_event 15 = .ok (.getfield 30, 3) := by decide +kernel
theorem dX7_event_18 : decode cX7_event 18 = .ok (.invokevirtual 102, 3) := by decide +kernel
theorem dX7_event_21 : decode cX7_event 21 = .ok (.ifCond .eq 6, 3) := by decide +kernel
theorem dX7_event_24 : decode cX7_event 24 = .ok (.bipush (-4), 2) := by decide +kernel
theorem dX7_event_26 : decode cX7_event 26 = .ok (.ireturn, 1) := by decide +kernel
theorem dX7_event_27 : decode cX7_event 27 = .ok (.aload_n 0, 1) := by decide +kernel
theorem dX7_event_28 : decode cX7_event 28 = .ok (.getfield 30, 3) := by decide +kernel
theorem dX7_event_31 : decode cX7_event 31 = .ok (.iload_n 1, 1) := by decide +kernel
theorem dX7_event_32 : decode cX7_event 32 = .ok (.iload_n 2, 1) := by decide +kernel
theorem dX7_event_33 : decode cX7_event 33 = .ok (.iload_n 3, 1) := by decide +kernel
theorem dX7_event_34 : decode cX7_event 34 = .ok (.iload 4, 2) := by decide +kernel
theorem dX7_event_36 : decode cX7_event 36 = .ok (.invokevirtual 106, 3) := by decide +kernel
theorem dX7_event_39 : decode cX7_event 39 = .ok (.aload_n 0, 1) := by decide +kernel
theorem dX7_event_40 : decode cX7_event 40 = .ok (.getfield 30, 3) := by decide +kernel
theorem dX7_event_43 : decode cX7_event 43 = .ok (.getfield 110, 3) := by decide +kernel
theorem dX7_event_46 : decode cX7_event 46 = .ok (.ireturn, 1) := by decide +kernel
theorem dX7_back_0 : decode cX7_back 0 = .ok (.aload_n 0, 1) := by decide +kernel
theorem dX7_back_1 : decode cX7_back 1 = .ok (.getfield 30, 3) := by decide +kernel
theorem dX7_back_4 : decode cX7_back 4 = .ok (.getfield 110, 3) := by decide +kernel
theorem dX7_back_7 : decode cX7_back 7 = .ok (.ifCond .ne 6, 3) := by decide +kernel
theorem dX7_back_10 : decode cX7_back 10 = .ok (.bipush (-3), 2) := by decide +kernel
theorem dX7_back_12 : decode cX7_back 12 = .ok (.ireturn, 1) := by decide +kernel
theorem dX7_back_13 : decode cX7_back 13 = .ok (.aload_n 0, 1) := by decide +kernel
theorem dX7_back_14 : decode cX7_back 14 = .ok (.getfield 30, 3) := by decide +kernel
theorem dX7_back_17 : decode cX7_back 17 = .ok (.invokevirtual 113, 3) := by decide +kernel
theorem dX7_back_20 : decode cX7_back 20 = .ok (.aload_n 0, 1) := by decide +kernel
theorem dX7_back_21 : decode cX7_back 21 = .ok (.getfield 30, 3) := by decide +kernel
theorem dX7_back_24 : decode cX7_back 24 = .ok (.getfield 110, 3) := by decide +kernel
theorem dX7_back_27 : decode cX7_back 27 = .ok (.ireturn, 1) := by decide +kernel
theorem dX7_read_0 : decode cX7_read 0 = .ok (.iload_n 1, 1) := by decide +kernel
theorem dX7_read_1 : decode cX7_read 1 = .ok (.invokestatic 116, 3) := by decide +kernel
theorem dX7_read_4 : decode cX7_read 4 = .ok (.ifCond .ne 6, 3) := by decide +kernel
theorem dX7_read_7 : decode cX7_read 7 = .ok (.bipush (-2), 2) := by decide +kernel
theorem dX7_read_9 : decode cX7_read 9 = .ok (.ireturn, 1) := by decide +kernel
theorem dX7_read_10 : decode cX7_read 10 = .ok (.aload_n 0, 1) := by decide +kernel
theorem dX7_read_11 : decode cX7_read 11 = .ok (.getfield 67, 3) := by decide +kernel
theorem dX7_read_14 : decode cX7_read 14 = .ok (.iload_n 1, 1) := by decide +kernel
theorem dX7_read_15 : decode cX7_read 15 = .ok (.aaload, 1) := by decide +kernel
theorem dX7_read_16 : decode cX7_read 16 = .ok (.astore_n 2, 1) := by decide +kernel
theorem dX7_read_17 : decode cX7_read 17 = .ok (.aload_n 2, 1) := by decide +kernel
theorem dX7_read_18 : decode cX7_read 18 = .ok (.getfield 119, 3) := by decide +kernel
theorem dX7_read_21 : decode cX7_read 21 = .ok (.ifCond .eq 9, 3) := by decide +kernel
theorem dX7_read_24 : decode cX7_read 24 = .ok (.aload_n 0, 1) := by decide +kernel
theorem dX7_read_25 : decode cX7_read 25 = .ok (.iconst 1, 1) := by decide +kernel
theorem dX7_read_26 : decode cX7_read 26 = .ok (.invokevirtual 123, 3) := by decide +kernel
theorem dX7_read_29 : decode cX7_read 29 = .ok (.ireturn, 1) := by decide +kernel
theorem dX7_read_30 : decode cX7_read 30 = .ok (.iconst 0, 1) := by decide +kernel
theorem dX7_read_31 : decode cX7_read 31 = .ok (.istore_n 3, 1) := by decide +kernel
theorem dX7_read_32 : decode cX7_read 32 = .ok (.iconst 0, 1) := by decide +kernel
theorem dX7_read_33 : decode cX7_read 33 = .ok (.istore 4, 2) := by decide +kernel
theorem dX7_read_35 : decode cX7_read 35 = .ok (.iload 4, 2) := by decide +kernel
theorem dX7_read_37 : decode cX7_read 37 = .ok (.iconst 4, 1) := by decide +kernel
theorem dX7_read_38 : decode cX7_read 38 = .ok (.iadd, 1) := by decide +kernel
theorem dX7_read_39 : decode cX7_read 39 = .ok (.aload_n 2, 1) := by decide +kernel
theorem dX7_read_40 : decode cX7_read 40 = .ok (.getfield 127, 3) := by decide +kernel
theorem dX7_read_43 : decode cX7_read 43 = .ok (.if_icmp .gt 96, 3) := by decide +kernel
theorem dX7_read_46 : decode cX7_read 46 = .ok (.aload_n 0, 1) := by decide +kernel
theorem dX7_read_47 : decode cX7_read 47 = .ok (.getfield 30, 3) := by decide +kernel
theorem dX7_read_50 : decode cX7_read 50 = .ok (.invokevirtual 102, 3) := by decide +kernel
theorem dX7_read_53 : decode cX7_read 53 = .ok (.ifCond .ne 86, 3) := by decide +kernel
theorem dX7_read_56 : decode cX7_read 56 = .ok (.aload_n 2, 1) := by decide +kernel
theorem dX7_read_57 : decode cX7_read 57 = .ok (.getfield 128, 3) := by decide +kernel
theorem dX7_read_60 : decode cX7_read 60 = .ok (.astore 5, 2) := by decide +kernel
theorem dX7_read_62 : decode cX7_read 62 = .ok (.aload 5, 2) := by decide +kernel
theorem dX7_read_64 : decode cX7_read 64 = .ok (.iload 4, 2) := by decide +kernel
theorem dX7_read_66 : decode cX7_read 66 = .ok (.iaload, 1) := by decide +kernel
theorem dX7_read_67 : decode cX7_read 67 = .ok (.aload 5, 2) := by decide +kernel
theorem dX7_read_69 : decode cX7_read 69 = .ok (.iload 4, 2) := by decide +kernel
theorem dX7_read_71 : decode cX7_read 71 = .ok (.iconst 1, 1) := by decide +kernel
theorem dX7_read_72 : decode cX7_read 72 = .ok (.iadd, 1) := by decide +kernel
theorem dX7_read_73 : decode cX7_read 73 = .ok (.iaload, 1) := by decide +kernel
theorem dX7_read_74 : decode cX7_read 74 = .ok (.aload 5, 2) := by decide +kernel
theorem dX7_read_76 : decode cX7_read 76 = .ok (.iload 4, 2) := by decide +kernel
theorem dX7_read_78 : decode cX7_read 78 = .ok (.iconst 2, 1) := by decide +kernel
theorem dX7_read_79 : decode cX7_read 79 = .ok (.iadd, 1) := by decide +kernel
theorem dX7_read_80 : decode cX7_read 80 = .ok (.iaload, 1) := by decide +kernel
theorem dX7_read_81 : decode cX7_read 81 = .ok (.aload 5, 2) := by decide +kernel
theorem dX7_read_83 : decode cX7_read 83 = .ok (.iload 4, 2) := by decide +kernel
theorem dX7_read_85 : decode cX7_read 85 = .ok (.iconst 3, 1) := by decide +kernel
theorem dX7_read_86 : decode cX7_read 86 = .ok (.iadd, 1) := by decide +kernel
theorem dX7_read_87 : decode cX7_read 87 = .ok (.iaload, 1) := by decide +kernel
theorem dX7_read_88 : decode cX7_read 88 = .ok (.invokestatic 98, 3) := by decide +kernel
theorem dX7_read_91 : decode cX7_read 91 = .ok (.ifCond .ne 6, 3) := by decide +kernel
theorem dX7_read_94 : decode cX7_read 94 = .ok (.goto 45, 3) := by decide +kernel
theorem dX7_read_97 : decode cX7_read 97 = .ok (.aload_n 0, 1) := by decide +kernel
theorem dX7_read_98 : decode cX7_read 98 = .ok (.getfield 30, 3) := by decide +kernel
theorem dX7_read_101 : decode cX7_read 101 = .ok (.aload 5, 2) := by decide +kernel
theorem dX7_read_103 : decode cX7_read 103 = .ok (.iload 4, 2) := by decide +kernel
theorem dX7_read_105 : decode cX7_read 105 = .ok (.iaload, 1) := by decide +kernel
theorem dX7_read_106 : decode cX7_read 106 = .ok (.aload 5, 2) := by decide +kernel
theorem dX7_read_108 : decode cX7_read 108 = .ok (.iload 4, 2) := by decide +kernel
theorem dX7_read_110 : decode cX7_read 110 = .ok (.iconst 1, 1) := by decide +kernel
theorem dX7_read_111 : decode cX7_read 111 = .ok (.iadd, 1) := by decide +kernel
theorem dX7_read_112 : decode cX7_read 112 = .ok (.iaload, 1) := by decide +kernel
theorem dX7_read_113 : decode cX7_read 113 = .ok (.aload 5, 2) := by decide +kernel
theorem dX7_read_115 : decode cX7_read 115 = .ok (.iload 4, 2) := by decide +kernel
theorem dX7_read_117 : decode cX7_read 117 = .ok (.iconst 2, 1) := by decide +kernel
theorem dX7_read_118 : decode cX7_read 118 = .ok (.iadd, 1) := by decide +kernel
theorem dX7_read_119 : decode cX7_read 119 = .ok (.iaload, 1) := by decide +kernel
theorem dX7_read_120 : decode cX7_read 120 = .ok (.aload 5, 2) := by decide +kernel
theorem dX7_read_122 : decode cX7_read 122 = .ok (.iload 4, 2) := by decide +kernel
theorem dX7_read_124 : decode cX7_read 124 = .ok (.iconst 3, 1) := by decide +kernel
theorem dX7_read_125 : decode cX7_read 125 = .ok (.iadd, 1) := by decide +kernel
theorem dX7_read_126 : decode cX7_read 126 = .ok (.iaload, 1) := by decide +kernel
theorem dX7_read_127 : decode cX7_read 127 = .ok (.invokevirtual 106, 3) := by decide +kernel
theorem dX7_read_130 : decode cX7_read 130 = .ok (.iinc 3 1, 3) := by decide +kernel
theorem dX7_read_133 : decode cX7_read 133 = .ok (.iinc 4 4, 3) := by decide +kernel
theorem dX7_read_136 : decode cX7_read 136 = .ok (.goto (-101), 3) := by decide +kernel
theorem dX7_read_139 : decode cX7_read 139 = .ok (.iload_n 3, 1) := by decide +kernel
theorem dX7_read_140 : decode cX7_read 140 = .ok (.ireturn, 1) := by decide +kernel
theorem dX7_at_0 : decode cX7_at 0 = .ok (.iload_n 1, 1) := by decide +kernel
theorem dX7_at_1 : decode cX7_at 1 = .ok (.invokestatic 131, 3) := by decide +kernel
theorem dX7_at_4 : decode cX7_at 4 = .ok (.ifCond .eq 14, 3) := by decide +kernel
theorem dX7_at_7 : decode cX7_at 7 = .ok (.aload_n 0, 1) := by decide +kernel
theorem dX7_at_8 : decode cX7_at 8 = .ok (.getfield 20, 3) := by decide +kernel
theorem dX7_at_11 : decode cX7_at 11 = .ok (.iload_n 2, 1) := by decide +kernel
theorem dX7_at_12 : decode cX7_at 12 = .ok (.invokevirtual 82, 3) := by decide +kernel
theorem dX7_at_15 : decode cX7_at 15 = .ok (.ifCond .ne 6, 3) := by decide +kernel
theorem dX7_at_18 : decode cX7_at 18 = .ok (.bipush (-2), 2) := by decide +kernel
theorem dX7_at_20 : decode cX7_at 20 = .ok (.ireturn, 1) := by decide +kernel
theorem dX7_at_21 : decode cX7_at 21 = .ok (.aload_n 0, 1) := by decide +kernel
theorem dX7_at_22 : decode cX7_at 22 = .ok (.getfield 54, 3) := by decide +kernel
theorem dX7_at_25 : decode cX7_at 25 = .ok (.aload_n 0, 1) := by decide +kernel
theorem dX7_at_26 : decode cX7_at 26 = .ok (.getfield 20, 3) := by decide +kernel
theorem dX7_at_29 : decode cX7_at 29 = .ok (.aload_n 0, 1) := by decide +kernel
theorem dX7_at_30 : decode cX7_at 30 = .ok (.getfield 30, 3) := by decide +kernel
theorem dX7_at_33 : decode cX7_at 33 = .ok (.aload_n 0, 1) := by decide +kernel
theorem dX7_at_34 : decode cX7_at 34 = .ok (.getfield 30, 3) := by decide +kernel
theorem dX7_at_37 : decode cX7_at 37 = .ok (.invokevirtual 134, 3) := by decide +kernel
theorem dX7_at_40 : decode cX7_at 40 = .ok (.iload_n 2, 1) := by decide +kernel
theorem dX7_at_41 : decode cX7_at 41 = .ok (.iload_n 1, 1) := by decide +kernel
theorem dX7_at_42 : decode cX7_at 42 = .ok (.invokevirtual 138, 3) := by decide +kernel
theorem dX7_at_45 : decode cX7_at 45 = .ok (.iload_n 3, 1) := by decide +kernel
theorem dX7_at_46 : decode cX7_at 46 = .ok (.tableswitch 82 0 4 #[34, 42, 50, 58, 74], 34) := by decide +kernel
theorem dX7_at_80 : decode cX7_at 80 = .ok (.aload_n 0, 1) := by decide +kernel
theorem dX7_at_81 : decode cX7_at 81 = .ok (.getfield 54, 3) := by decide +kernel
theorem dX7_at_84 : decode cX7_at 84 = .ok (.getfield 142, 3) := by decide +kernel
theorem dX7_at_87 : decode cX7_at 87 = .ok (.ireturn, 1) := by decide +kernel
theorem dX7_at_88 : decode cX7_at 88 = .ok (.aload_n 0, 1) := by decide +kernel
theorem dX7_at_89 : decode cX7_at 89 = .ok (.getfield 54, 3) := by decide +kernel
theorem dX7_at_92 : decode cX7_at 92 = .ok (.getfield 144, 3) := by decide +kernel
theorem dX7_at_95 : decode cX7_at 95 = .ok (.ireturn, 1) := by decide +kernel
theorem dX7_at_96 : decode cX7_at 96 = .ok (.aload_n 0, 1) := by decide +kernel
theorem dX7_at_97 : decode cX7_at 97 = .ok (.getfield 54, 3) := by decide +kernel
theorem dX7_at_100 : decode cX7_at 100 = .ok (.getfield 147, 3) := by decide +kernel
theorem dX7_at_103 : decode cX7_at 103 = .ok (.ireturn, 1) := by decide +kernel
theorem dX7_at_104 : decode cX7_at 104 = .ok (.aload_n 0, 1) := by decide +kernel
theorem dX7_at_105 : decode cX7_at 105 = .ok (.getfield 54, 3) := by decide +kernel
theorem dX7_at_108 : decode cX7_at 108 = .ok (.getfield 150, 3) := by decide +kernel
theorem dX7_at_111 : decode cX7_at 111 = .ok (.ifCond .eq 7, 3) := by decide +kernel
theorem dX7_at_114 : decode cX7_at 114 = .ok (.iconst 1, 1) := by decide +kernel
theorem dX7_at_115 : decode cX7_at 115 = .ok (.goto 4, 3) := by decide +kernel
theorem dX7_at_118 : decode cX7_at 118 = .ok (.iconst 0, 1) := by decide +kernel
theorem dX7_at_119 : decode cX7_at 119 = .ok (.ireturn, 1) := by decide +kernel
theorem dX7_at_120 : decode cX7_at 120 = .ok (.aload_n 0, 1) := by decide +kernel
theorem dX7_at_121 : decode cX7_at 121 = .ok (.getfield 54, 3) := by decide +kernel
theorem dX7_at_124 : decode cX7_at 124 = .ok (.getfield 153, 3) := by decide +kernel
theorem dX7_at_127 : decode cX7_at 127 = .ok (.ireturn, 1) := by decide +kernel
theorem dX7_at_128 : decode cX7_at 128 = .ok (.bipush (-2), 2) := by decide +kernel
theorem dX7_at_130 : decode cX7_at 130 = .ok (.ireturn, 1) := by decide +kernel
theorem dX7_place_0 : decode cX7_place 0 = .ok (.iload_n 1, 1) := by decide +kernel
theorem dX7_place_1 : decode cX7_place 1 = .ok (.invokestatic 131, 3) := by decide +kernel
theorem dX7_place_4 : decode cX7_place 4 = .ok (.ifCond .eq 14, 3) := by decide +kernel
theorem dX7_place_7 : decode cX7_place 7 = .ok (.aload_n 0, 1) := by decide +kernel
theorem dX7_place_8 : decode cX7_place 8 = .ok (.getfield 20, 3) := by decide +kernel
theorem dX7_place_11 : decode cX7_place 11 = .ok (.iload_n 2, 1) := by decide +kernel
theorem dX7_place_12 : decode cX7_place 12 = .ok (.invokevirtual 82, 3) := by decide +kernel
theorem dX7_place_15 : decode cX7_place 15 = .ok (.ifCond .ne 6, 3) := by decide +kernel
theorem dX7_place_18 : decode cX7_place 18 = .ok (.ldc 156, 2) := by decide +kernel
theorem dX7_place_20 : decode cX7_place 20 = .ok (.ireturn, 1) := by decide +kernel
theorem dX7_place_21 : decode cX7_place 21 = .ok (.aload_n 0, 1) := by decide +kernel
theorem dX7_place_22 : decode cX7_place 22 = .ok (.getfield 54, 3) := by decide +kernel
theorem dX7_place_25 : decode cX7_place 25 = .ok (.aload_n 0, 1) := by decide +kernel
theorem dX7_place_26 : decode cX7_place 26 = .ok (.getfield 20, 3) := by decide +kernel
theorem dX7_place_29 : decode cX7_place 29 = .ok (.aload_n 0, 1) := by decide +kernel
theorem dX7_place_30 : decode cX7_place 30 = .ok (.getfield 30, 3) := by decide +kernel
theorem dX7_place_33 : decode cX7_place 33 = .ok (.aload_n 0, 1) := by decide +kernel
theorem dX7_place_34 : decode cX7_place 34 = .ok (.getfield 30, 3) := by decide +kernel
theorem dX7_place_37 : decode cX7_place 37 = .ok (.invokevirtual 134, 3) := by decide +kernel
theorem dX7_place_40 : decode cX7_place 40 = .ok (.iload_n 2, 1) := by decide +kernel
theorem dX7_place_41 : decode cX7_place 41 = .ok (.iload_n 1, 1) := by decide +kernel
theorem dX7_place_42 : decode cX7_place 42 = .ok (.invokevirtual 138, 3) := by decide +kernel
theorem dX7_place_45 : decode cX7_place 45 = .ok (.iload_n 3, 1) := by decide +kernel
theorem dX7_place_46 : decode cX7_place 46 = .ok (.tableswitch 62 0 3 #[30, 38, 46, 54], 30) := by decide +kernel
theorem dX7_place_76 : decode cX7_place 76 = .ok (.aload_n 0, 1) := by decide +kernel
theorem dX7_place_77 : decode cX7_place 77 = .ok (.getfield 54, 3) := by decide +kernel
theorem dX7_place_80 : decode cX7_place 80 = .ok (.getfield 157, 3) := by decide +kernel
theorem dX7_place_83 : decode cX7_place 83 = .ok (.ireturn, 1) := by decide +kernel
theorem dX7_place_84 : decode cX7_place 84 = .ok (.aload_n 0, 1) := by decide +kernel
theorem dX7_place_85 : decode cX7_place 85 = .ok (.getfield 54, 3) := by decide +kernel
theorem dX7_place_88 : decode cX7_place 88 = .ok (.getfield 159, 3) := by decide +kernel
theorem dX7_place_91 : decode cX7_place 91 = .ok (.ireturn, 1) := by decide +kernel
theorem dX7_place_92 : decode cX7_place 92 = .ok (.aload_n 0, 1) := by decide +kernel
theorem dX7_place_93 : decode cX7_place 93 = .ok (.getfield 54, 3) := by decide +kernel
theorem dX7_place_96 : decode cX7_place 96 = .ok (.invokevirtual 161, 3) := by decide +kernel
theorem dX7_place_99 : decode cX7_place 99 = .ok (.ireturn, 1) := by decide +kernel
theorem dX7_place_100 : decode cX7_place 100 = .ok (.aload_n 0, 1) := by decide +kernel
theorem dX7_place_101 : decode cX7_place 101 = .ok (.getfield 54, 3) := by decide +kernel
theorem dX7_place_104 : decode cX7_place 104 = .ok (.invokevirtual 164, 3) := by decide +kernel
theorem dX7_place_107 : decode cX7_place 107 = .ok (.ireturn, 1) := by decide +kernel
theorem dX7_place_108 : decode cX7_place 108 = .ok (.ldc 156, 2) := by decide +kernel
theorem dX7_place_110 : decode cX7_place 110 = .ok (.ireturn, 1) := by decide +kernel
theorem dX7_are_0 : decode cX7_are 0 = .ok (.iload_n 1, 1) := by decide +kernel
theorem dX7_are_1 : decode cX7_are 1 = .ok (.invokestatic 131, 3) := by decide +kernel
theorem dX7_are_4 : decode cX7_are 4 = .ok (.ifCond .eq 30, 3) := by decide +kernel
theorem dX7_are_7 : decode cX7_are 7 = .ok (.aload_n 0, 1) := by decide +kernel
theorem dX7_are_8 : decode cX7_are 8 = .ok (.getfield 20, 3) := by decide +kernel
theorem dX7_are_11 : decode cX7_are 11 = .ok (.iload_n 2, 1) := by decide +kernel
theorem dX7_are_12 : decode cX7_are 12 = .ok (.invokevirtual 82, 3) := by decide +kernel
theorem dX7_are_15 : decode cX7_are 15 = .ok (.ifCond .eq 19, 3) := by decide +kernel
theorem dX7_are_18 : decode cX7_are 18 = .ok (.aload_n 0, 1) := by decide +kernel
theorem dX7_are_19 : decode cX7_are 19 = .ok (.getfield 20, 3) := by decide +kernel
theorem dX7_are_22 : decode cX7_are 22 = .ok (.iload_n 3, 1) := by decide +kernel
theorem dX7_are_23 : decode cX7_are 23 = .ok (.invokevirtual 82, 3) := by decide +kernel
theorem dX7_are_26 : decode cX7_are 26 = .ok (.ifCond .eq 8, 3) := by decide +kernel
theorem dX7_are_29 : decode cX7_are 29 = .ok (.iload_n 2, 1) := by decide +kernel
theorem dX7_are_30 : decode cX7_are 30 = .ok (.iload_n 3, 1) := by decide +kernel
theorem dX7_are_31 : decode cX7_are 31 = .ok (.if_icmp .ne 6, 3) := by decide +kernel
theorem dX7_are_34 : decode cX7_are 34 = .ok (.bipush (-2), 2) := by decide +kernel
theorem dX7_are_36 : decode cX7_are 36 = .ok (.ireturn, 1) := by decide +kernel
theorem dX7_are_37 : decode cX7_are 37 = .ok (.aload_n 0, 1) := by decide +kernel
theorem dX7_are_38 : decode cX7_are 38 = .ok (.iload_n 1, 1) := by decide +kernel
theorem dX7_are_39 : decode cX7_are 39 = .ok (.invokevirtual 167, 3) := by decide +kernel
theorem dX7_are_42 : decode cX7_are 42 = .ok (.aload_n 0, 1) := by decide +kernel
theorem dX7_are_43 : decode cX7_are 43 = .ok (.getfield 47, 3) := by decide +kernel
theorem dX7_are_46 : decode cX7_are 46 = .ok (.getfield 171, 3) := by decide +kernel
theorem dX7_are_49 : decode cX7_are 49 = .ok (.iload_n 2, 1) := by decide +kernel
theorem dX7_are_50 : decode cX7_are 50 = .ok (.aaload, 1) := by decide +kernel
theorem dX7_are_51 : decode cX7_are 51 = .ok (.aload_n 0, 1) := by decide +kernel
theorem dX7_are_52 : decode cX7_are 52 = .ok (.getfield 47, 3) := by decide +kernel
theorem dX7_are_55 : decode cX7_are 55 = .ok (.getfield 171, 3) := by decide +kernel
theorem dX7_are_58 : decode cX7_are 58 = .ok (.iload_n 3, 1) := by decide +kernel
theorem dX7_are_59 : decode cX7_are 59 = .ok (.aaload, 1) := by decide +kernel
theorem dX7_are_60 : decode cX7_are 60 = .ok (.invokevirtual 175, 3) := by decide +kernel
theorem dX7_are_63 : decode cX7_are 63 = .ok (.ireturn, 1) := by decide +kernel
theorem dX7_pairs_0 : decode cX7_pairs 0 = .ok (.iload_n 1, 1) := by decide +kernel
theorem dX7_pairs_1 : decode cX7_pairs 1 = .ok (.invokestatic 131, 3) := by decide +kernel
theorem dX7_pairs_4 : decode cX7_pairs 4 = .ok (.ifCond .eq 12, 3) := by decide +kernel
theorem dX7_pairs_7 : decode cX7_pairs 7 = .ok (.iload_n 2, 1) := by decide +kernel
theorem dX7_pairs_8 : decode cX7_pairs 8 = .ok (.iconst 0, 1) := by decide +kernel
theorem dX7_pairs_9 : decode cX7_pairs 9 = .ok (.iconst 1, 1) := by decide +kernel
theorem dX7_pairs_10 : decode cX7_pairs 10 = .ok (.invokestatic 72, 3) := by decide +kernel
theorem dX7_pairs_13 : decode cX7_pairs 13 = .ok (.ifCond .ne 6, 3) := by decide +kernel
theorem dX7_pairs_16 : decode cX7_pairs 16 = .ok (.bipush (-2), 2) := by decide +kernel
theorem dX7_pairs_18 : decode cX7_pairs 18 = .ok (.ireturn, 1) := by decide +kernel
theorem dX7_pairs_19 : decode cX7_pairs 19 = .ok (.aload_n 0, 1) := by decide +kernel
theorem dX7_pairs_20 : decode cX7_pairs 20 = .ok (.iload_n 1, 1) := by decide +kernel
theorem dX7_pairs_21 : decode cX7_pairs 21 = .ok (.invokevirtual 167, 3) := by decide +kernel
theorem dX7_pairs_24 : decode cX7_pairs 24 = .ok (.aload_n 0, 1) := by decide +kernel
theorem dX7_pairs_25 : decode cX7_pairs 25 = .ok (.getfield 47, 3) := by decide +kernel
theorem dX7_pairs_28 : decode cX7_pairs 28 = .ok (.iload_n 2, 1) := by decide +kernel
theorem dX7_pairs_29 : decode cX7_pairs 29 = .ok (.ifCond .ne 7, 3) := by decide +kernel
theorem dX7_pairs_32 : decode cX7_pairs 32 = .ok (.iconst 4, 1) := by decide +kernel
theorem dX7_pairs_33 : decode cX7_pairs 33 = .ok (.goto 5, 3) := by decide +kernel
theorem dX7_pairs_36 : decode cX7_pairs 36 = .ok (.bipush 10, 2) := by decide +kernel
theorem dX7_pairs_38 : decode cX7_pairs 38 = .ok (.invokevirtual 179, 3) := by decide +kernel
theorem dX7_pairs_41 : decode cX7_pairs 41 = .ok (.ireturn, 1) := by decide +kernel
theorem dX7_closed_0 : decode cX7_closed 0 = .ok (.iload_n 1, 1) := by decide +kernel
theorem dX7_closed_1 : decode cX7_closed 1 = .ok (.invokestatic 131, 3) := by decide +kernel
theorem dX7_closed_4 : decode cX7_closed 4 = .ok (.ifCond .ne 6, 3) := by decide +kernel
theorem dX7_closed_7 : decode cX7_closed 7 = .ok (.bipush (-2), 2) := by decide +kernel
theorem dX7_closed_9 : decode cX7_closed 9 = .ok (.ireturn, 1) := by decide +kernel
theorem dX7_closed_10 : decode cX7_closed 10 = .ok (.aload_n 0, 1) := by decide +kernel
theorem dX7_closed_11 : decode cX7_closed 11 = .ok (.iload_n 1, 1) := by decide +kernel
theorem dX7_closed_12 : decode cX7_closed 12 = .ok (.invokevirtual 167, 3) := by decide +kernel
theorem dX7_closed_15 : decode cX7_closed 15 = .ok (.aload_n 0, 1) := by decide +kernel
theorem dX7_closed_16 : decode cX7_closed 16 = .ok (.getfield 47, 3) := by decide +kernel
theorem dX7_closed_19 : decode cX7_closed 19 = .ok (.invokevirtual 182, 3) := by decide +kernel
theorem dX7_closed_22 : decode cX7_closed 22 = .ok (.ireturn, 1) := by decide +kernel
theorem dX7_holes_0 : decode cX7_holes 0 = .ok (.aload_n 0, 1) := by decide +kernel
theorem dX7_holes_1 : decode cX7_holes 1 = .ok (.getfield 61, 3) := by decide +kernel
theorem dX7_holes_4 : decode cX7_holes 4 = .ok (.invokevirtual 185, 3) := by decide +kernel
theorem dX7_holes_7 : decode cX7_holes 7 = .ok (.iconst 0, 1) := by decide +kernel
theorem dX7_holes_8 : decode cX7_holes 8 = .ok (.istore_n 1, 1) := by decide +kernel
theorem dX7_holes_9 : decode cX7_holes 9 = .ok (.iload_n 1, 1) := by decide +kernel
theorem dX7_holes_10 : decode cX7_holes 10 = .ok (.bipush 20, 2) := by decide +kernel
theorem dX7_holes_12 : decode cX7_holes 12 = .ok (.if_icmp .ge 64, 3) := by decide +kernel
theorem dX7_holes_15 : decode cX7_holes 15 = .ok (.aload_n 0, 1) := by decide +kernel
theorem dX7_holes_16 : decode cX7_holes 16 = .ok (.iload_n 1, 1) := by decide +kernel
theorem dX7_holes_17 : decode cX7_holes 17 = .ok (.invokevirtual 167, 3) := by decide +kernel
theorem dX7_holes_20 : decode cX7_holes 20 = .ok (.iconst 0, 1) := by decide +kernel
theorem dX7_holes_21 : decode cX7_holes 21 = .ok (.istore_n 2, 1) := by decide +kernel
theorem dX7_holes_22 : decode cX7_holes 22 = .ok (.iload_n 2, 1) := by decide +kernel
theorem dX7_holes_23 : decode cX7_holes 23 = .ok (.aload_n 0, 1) := by decide +kernel
theorem dX7_holes_24 : decode cX7_holes 24 = .ok (.getfield 47, 3) := by decide +kernel
theorem dX7_holes_27 : decode cX7_holes 27 = .ok (.getfield 188, 3) := by decide +kernel
theorem dX7_holes_30 : decode cX7_holes 30 = .ok (.if_icmp .ge 40, 3) := by decide +kernel
theorem dX7_holes_33 : decode cX7_holes 33 = .ok (.aload_n 0, 1) := by decide +kernel
theorem dX7_holes_34 : decode cX7_holes 34 = .ok (.getfield 61, 3) := by decide +kernel
theorem dX7_holes_37 : decode cX7_holes 37 = .ok (.aload_n 0, 1) := by decide +kernel
theorem dX7_holes_38 : decode cX7_holes 38 = .ok (.getfield 47, 3) := by decide +kernel
theorem dX7_holes_41 : decode cX7_holes 41 = .ok (.getfield 171, 3) := by decide +kernel
theorem dX7_holes_44 : decode cX7_holes 44 = .ok (.iload_n 2, 1) := by decide +kernel
theorem dX7_holes_45 : decode cX7_holes 45 = .ok (.aaload, 1) := by decide +kernel
theorem dX7_holes_46 : decode cX7_holes 46 = .ok (.getfield 157, 3) := by decide +kernel
theorem dX7_holes_49 : decode cX7_holes 49 = .ok (.aload_n 0, 1) := by decide +kernel
theorem dX7_holes_50 : decode cX7_holes 50 = .ok (.getfield 47, 3) := by decide +kernel
theorem dX7_holes_53 : decode cX7_holes 53 = .ok (.getfield 171, 3) := by decide +kernel
theorem dX7_holes_56 : decode cX7_holes 56 = .ok (.iload_n 2, 1) := by decide +kernel
theorem dX7_holes_57 : decode cX7_holes 57 = .ok (.aaload, 1) := by decide +kernel
theorem dX7_holes_58 : decode cX7_holes 58 = .ok (.getfield 159, 3) := by decide +kernel
theorem dX7_holes_61 : decode cX7_holes 61 = .ok (.invokevirtual 189, 3) := by decide +kernel
theorem dX7_holes_64 : decode cX7_holes 64 = .ok (.iinc 2 1, 3) := by decide +kernel
theorem dX7_holes_67 : decode cX7_holes 67 = .ok (.goto (-45), 3) := by decide +kernel
theorem dX7_holes_70 : decode cX7_holes 70 = .ok (.iinc 1 1, 3) := by decide +kernel
theorem dX7_holes_73 : decode cX7_holes 73 = .ok (.goto (-64), 3) := by decide +kernel
theorem dX7_holes_76 : decode cX7_holes 76 = .ok (.aload_n 0, 1) := by decide +kernel
theorem dX7_holes_77 : decode cX7_holes 77 = .ok (.getfield 61, 3) := by decide +kernel
theorem dX7_holes_80 : decode cX7_holes 80 = .ok (.getfield 193, 3) := by decide +kernel
theorem dX7_holes_83 : decode cX7_holes 83 = .ok (.ireturn, 1) := by decide +kernel
theorem dX7_ringed_0 : decode cX7_ringed 0 = .ok (.aload_n 0, 1) := by decide +kernel
theorem dX7_ringed_1 : decode cX7_ringed 1 = .ok (.getfield 20, 3) := by decide +kernel
theorem dX7_ringed_4 : decode cX7_ringed 4 = .ok (.iload_n 1, 1) := by decide +kernel
theorem dX7_ringed_5 : decode cX7_ringed 5 = .ok (.invokevirtual 82, 3) := by decide +kernel
theorem dX7_ringed_8 : decode cX7_ringed 8 = .ok (.ifCond .ne 6, 3) := by decide +kernel
theorem dX7_ringed_11 : decode cX7_ringed 11 = .ok (.bipush (-2), 2) := by decide +kernel
theorem dX7_ringed_13 : decode cX7_ringed 13 = .ok (.ireturn, 1) := by decide +kernel
theorem dX7_ringed_14 : decode cX7_ringed 14 = .ok (.iconst 0, 1) := by decide +kernel
theorem dX7_ringed_15 : decode cX7_ringed 15 = .ok (.istore_n 2, 1) := by decide +kernel
theorem dX7_ringed_16 : decode cX7_ringed 16 = .ok (.iload_n 2, 1) := by decide +kernel
theorem dX7_ringed_17 : decode cX7_ringed 17 = .ok (.bipush 20, 2) := by decide +kernel
theorem dX7_ringed_19 : decode cX7_ringed 19 = .ok (.if_icmp .ge 45, 3) := by decide +kernel
theorem dX7_ringed_22 : decode cX7_ringed 22 = .ok (.aload_n 0, 1) := by decide +kernel
theorem dX7_ringed_23 : decode cX7_ringed 23 = .ok (.getfield 54, 3) := by decide +kernel
theorem dX7_ringed_26 : decode cX7_ringed 26 = .ok (.aload_n 0, 1) := by decide +kernel
theorem dX7_ringed_27 : decode cX7_ringed 27 = .ok (.getfield 20, 3) := by decide +kernel
theorem dX7_ringed_30 : decode cX7_ringed 30 = .ok (.aload_n 0, 1) := by decide +kernel
theorem dX7_ringed_31 : decode cX7_ringed 31 = .ok (.getfield 30, 3) := by decide +kernel
theorem dX7_ringed_34 : decode cX7_ringed 34 = .ok (.aload_n 0, 1) := by decide +kernel
theorem dX7_ringed_35 : decode cX7_ringed 35 = .ok (.getfield 30, 3) := by decide +kernel
theorem dX7_ringed_38 : decode cX7_ringed 38 = .ok (.invokevirtual 134, 3) := by decide +kernel
theorem dX7_ringed_41 : decode cX7_ringed 41 = .ok (.iload_n 1, 1) := by decide +kernel
theorem dX7_ringed_42 : decode cX7_ringed 42 = .ok (.iload_n 2, 1) := by decide +kernel
theorem dX7_ringed_43 : decode cX7_ringed 43 = .ok (.invokevirtual 138, 3) := by decide +kernel
theorem dX7_ringed_46 : decode cX7_ringed 46 = .ok (.aload_n 0, 1) := by decide +kernel
theorem dX7_ringed_47 : decode cX7_ringed 47 = .ok (.getfield 54, 3) := by decide +kernel
theorem dX7_ringed_50 : decode cX7_ringed 50 = .ok (.invokevirtual 194, 3) := by decide +kernel
theorem dX7_ringed_53 : decode cX7_ringed 53 = .ok (.ifCond .eq 5, 3) := by decide +kernel
theorem dX7_ringed_56 : decode cX7_ringed 56 = .ok (.iload_n 2, 1) := by decide +kernel
theorem dX7_ringed_57 : decode cX7_ringed 57 = .ok (.ireturn, 1) := by decide +kernel
theorem dX7_ringed_58 : decode cX7_ringed 58 = .ok (.iinc 2 1, 3) := by decide +kernel
theorem dX7_ringed_61 : decode cX7_ringed 61 = .ok (.goto (-45), 3) := by decide +kernel
theorem dX7_ringed_64 : decode cX7_ringed 64 = .ok (.iconst (-1), 1) := by decide +kernel
theorem dX7_ringed_65 : decode cX7_ringed 65 = .ok (.ireturn, 1) := by decide +kernel
theorem dX7_meets_0 : decode cX7_meets 0 = .ok (.iload_n 1, 1) := by decide +kernel
theorem dX7_meets_1 : decode cX7_meets 1 = .ok (.iconst 0, 1) := by decide +kernel
theorem dX7_meets_2 : decode cX7_meets 2 = .ok (.iconst 2, 1) := by decide +kernel
theorem dX7_meets_3 : decode cX7_meets 3 = .ok (.invokestatic 72, 3) := by decide +kernel
theorem dX7_meets_6 : decode cX7_meets 6 = .ok (.ifCond .ne 6, 3) := by decide +kernel
theorem dX7_meets_9 : decode cX7_meets 9 = .ok (.bipush (-2), 2) := by decide +kernel
theorem dX7_meets_11 : decode cX7_meets 11 = .ok (.ireturn, 1) := by decide +kernel
theorem dX7_meets_12 : decode cX7_meets 12 = .ok (.iconst 0, 1) := by decide +kernel
theorem dX7_meets_13 : decode cX7_meets 13 = .ok (.istore_n 2, 1) := by decide +kernel
theorem dX7_meets_14 : decode cX7_meets 14 = .ok (.iload_n 2, 1) := by decide +kernel
theorem dX7_meets_15 : decode cX7_meets 15 = .ok (.bipush 20, 2) := by decide +kernel
theorem dX7_meets_17 : decode cX7_meets 17 = .ok (.if_icmp .ge 58, 3) := by decide +kernel
theorem dX7_meets_20 : decode cX7_meets 20 = .ok (.aload_n 0, 1) := by decide +kernel
theorem dX7_meets_21 : decode cX7_meets 21 = .ok (.iload_n 2, 1) := by decide +kernel
theorem dX7_meets_22 : decode cX7_meets 22 = .ok (.invokevirtual 167, 3) := by decide +kernel
theorem dX7_meets_25 : decode cX7_meets 25 = .ok (.iconst 0, 1) := by decide +kernel
theorem dX7_meets_26 : decode cX7_meets 26 = .ok (.istore_n 3, 1) := by decide +kernel
theorem dX7_meets_27 : decode cX7_meets 27 = .ok (.iload_n 3, 1) := by decide +kernel
theorem dX7_meets_28 : decode cX7_meets 28 = .ok (.aload_n 0, 1) := by decide +kernel
theorem dX7_meets_29 : decode cX7_meets 29 = .ok (.getfield 47, 3) := by decide +kernel
theorem dX7_meets_32 : decode cX7_meets 32 = .ok (.getfield 188, 3) := by decide +kernel
theorem dX7_meets_35 : decode cX7_meets 35 = .ok (.if_icmp .ge 34, 3) := by decide +kernel
theorem dX7_meets_38 : decode cX7_meets 38 = .ok (.aload_n 0, 1) := by decide +kernel
theorem dX7_meets_39 : decode cX7_meets 39 = .ok (.getfield 47, 3) := by decide +kernel
theorem dX7_meets_42 : decode cX7_meets 42 = .ok (.iload_n 3, 1) := by decide +kernel
theorem dX7_meets_43 : decode cX7_meets 43 = .ok (.invokevirtual 197, 3) := by decide +kernel
theorem dX7_meets_46 : decode cX7_meets 46 = .ok (.istore 4, 2) := by decide +kernel
theorem dX7_meets_48 : decode cX7_meets 48 = .ok (.iload 4, 2) := by decide +kernel
theorem dX7_meets_50 : decode cX7_meets 50 = .ok (.iconst (-1), 1) := by decide +kernel
theorem dX7_meets_51 : decode cX7_meets 51 = .ok (.if_icmp .eq 12, 3) := by decide +kernel
theorem dX7_meets_54 : decode cX7_meets 54 = .ok (.iload_n 1, 1) := by decide +kernel
theorem dX7_meets_55 : decode cX7_meets 55 = .ok (.iload_n 2, 1) := by decide +kernel
theorem dX7_meets_56 : decode cX7_meets 56 = .ok (.iload_n 3, 1) := by decide +kernel
theorem dX7_meets_57 : decode cX7_meets 57 = .ok (.iload 4, 2) := by decide +kernel
theorem dX7_meets_59 : decode cX7_meets 59 = .ok (.invokestatic 200, 3) := by decide +kernel
theorem dX7_meets_62 : decode cX7_meets 62 = .ok (.ireturn, 1) := by decide +kernel
theorem dX7_meets_63 : decode cX7_meets 63 = .ok (.iinc 3 1, 3) := by decide +kernel
theorem dX7_meets_66 : decode cX7_meets 66 = .ok (.goto (-39), 3) := by decide +kernel
theorem dX7_meets_69 : decode cX7_meets 69 = .ok (.iinc 2 1, 3) := by decide +kernel
theorem dX7_meets_72 : decode cX7_meets 72 = .ok (.goto (-58), 3) := by decide +kernel
theorem dX7_meets_75 : decode cX7_meets 75 = .ok (.iconst (-1), 1) := by decide +kernel
theorem dX7_meets_76 : decode cX7_meets 76 = .ok (.ireturn, 1) := by decide +kernel
theorem dX7_open_0 : decode cX7_open 0 = .ok (.aload_n 0, 1) := by decide +kernel
theorem dX7_open_1 : decode cX7_open 1 = .ok (.getfield 20, 3) := by decide +kernel
theorem dX7_open_4 : decode cX7_open 4 = .ok (.iload_n 1, 1) := by decide +kernel
theorem dX7_open_5 : decode cX7_open 5 = .ok (.invokevirtual 82, 3) := by decide +kernel
theorem dX7_open_8 : decode cX7_open 8 = .ok (.ifCond .eq 19, 3) := by decide +kernel
theorem dX7_open_11 : decode cX7_open 11 = .ok (.iload_n 2, 1) := by decide +kernel
theorem dX7_open_12 : decode cX7_open 12 = .ok (.invokestatic 131, 3) := by decide +kernel
theorem dX7_open_15 : decode cX7_open 15 = .ok (.ifCond .eq 12, 3) := by decide +kernel
theorem dX7_open_18 : decode cX7_open 18 = .ok (.iload_n 3, 1) := by decide +kernel
theorem dX7_open_19 : decode cX7_open 19 = .ok (.iconst 0, 1) := by decide +kernel
theorem dX7_open_20 : decode cX7_open 20 = .ok (.iconst 1, 1) := by decide +kernel
theorem dX7_open_21 : decode cX7_open 21 = .ok (.invokestatic 72, 3) := by decide +kernel
theorem dX7_open_24 : decode cX7_open 24 = .ok (.ifCond .ne 6, 3) := by decide +kernel
theorem dX7_open_27 : decode cX7_open 27 = .ok (.bipush (-2), 2) := by decide +kernel
theorem dX7_open_29 : decode cX7_open 29 = .ok (.ireturn, 1) := by decide +kernel
theorem dX7_open_30 : decode cX7_open 30 = .ok (.aload_n 0, 1) := by decide +kernel
theorem dX7_open_31 : decode cX7_open 31 = .ok (.iload_n 2, 1) := by decide +kernel
theorem dX7_open_32 : decode cX7_open 32 = .ok (.invokevirtual 167, 3) := by decide +kernel
theorem dX7_open_35 : decode cX7_open 35 = .ok (.aload_n 0, 1) := by decide +kernel
theorem dX7_open_36 : decode cX7_open 36 = .ok (.getfield 24, 3) := by decide +kernel
theorem dX7_open_39 : decode cX7_open 39 = .ok (.aload_n 0, 1) := by decide +kernel
theorem dX7_open_40 : decode cX7_open 40 = .ok (.getfield 20, 3) := by decide +kernel
theorem dX7_open_43 : decode cX7_open 43 = .ok (.invokevirtual 204, 3) := by decide +kernel
theorem dX7_open_46 : decode cX7_open 46 = .ok (.iconst 0, 1) := by decide +kernel
theorem dX7_open_47 : decode cX7_open 47 = .ok (.istore 4, 2) := by decide +kernel
theorem dX7_open_49 : decode cX7_open 49 = .ok (.bipush 8, 2) := by decide +kernel
theorem dX7_open_51 : decode cX7_open 51 = .ok (.istore 5, 2) := by decide +kernel
theorem dX7_open_53 : decode cX7_open 53 = .ok (.iconst 0, 1) := by decide +kernel
theorem dX7_open_54 : decode cX7_open 54 = .ok (.istore 6, 2) := by decide +kernel
theorem dX7_open_56 : decode cX7_open 56 = .ok (.iload 6, 2) := by decide +kernel
theorem dX7_open_58 : decode cX7_open 58 = .ok (.bipush 10, 2) := by decide +kernel
theorem dX7_open_60 : decode cX7_open 60 = .ok (.if_icmp .ge 75, 3) := by decide +kernel
theorem dX7_open_63 : decode cX7_open 63 = .ok (.aload_n 0, 1) := by decide +kernel
theorem dX7_open_64 : decode cX7_open 64 = .ok (.getfield 24, 3) := by decide +kernel
theorem dX7_open_67 : decode cX7_open 67 = .ok (.getfield 92, 3) := by decide +kernel
theorem dX7_open_70 : decode cX7_open 70 = .ok (.iload_n 1, 1) := by decide +kernel
theorem dX7_open_71 : decode cX7_open 71 = .ok (.iload 6, 2) := by decide +kernel
theorem dX7_open_73 : decode cX7_open 73 = .ok (.iastore, 1) := by decide +kernel
theorem dX7_open_74 : decode cX7_open 74 = .ok (.aload_n 0, 1) := by decide +kernel
theorem dX7_open_75 : decode cX7_open 75 = .ok (.getfield 47, 3) := by decide +kernel
theorem dX7_open_78 : decode cX7_open 78 = .ok (.getfield 171, 3) := by decide +kernel
theorem dX7_open_81 : decode cX7_open 81 = .ok (.iload_n 1, 1) := by decide +kernel
theorem dX7_open_82 : decode cX7_open 82 = .ok (.aaload, 1) := by decide +kernel
theorem dX7_open_83 : decode cX7_open 83 = .ok (.aload_n 0, 1) := by decide +kernel
theorem dX7_open_84 : decode cX7_open 84 = .ok (.getfield 24, 3) := by decide +kernel
theorem dX7_open_87 : decode cX7_open 87 = .ok (.aload_n 0, 1) := by decide +kernel
theorem dX7_open_88 : decode cX7_open 88 = .ok (.getfield 30, 3) := by decide +kernel
theorem dX7_open_91 : decode cX7_open 91 = .ok (.aload_n 0, 1) := by decide +kernel
theorem dX7_open_92 : decode cX7_open 92 = .ok (.getfield 30, 3) := by decide +kernel
theorem dX7_open_95 : decode cX7_open 95 = .ok (.invokevirtual 134, 3) := by decide +kernel
theorem dX7_open_98 : decode cX7_open 98 = .ok (.iload_n 1, 1) := by decide +kernel
theorem dX7_open_99 : decode cX7_open 99 = .ok (.iload_n 2, 1) := by decide +kernel
theorem dX7_open_100 : decode cX7_open 100 = .ok (.invokevirtual 138, 3) := by decide +kernel
theorem dX7_open_103 : decode cX7_open 103 = .ok (.aload_n 0, 1) := by decide +kernel
theorem dX7_open_104 : decode cX7_open 104 = .ok (.getfield 47, 3) := by decide +kernel
theorem dX7_open_107 : decode cX7_open 107 = .ok (.iload_n 1, 1) := by decide +kernel
theorem dX7_open_108 : decode cX7_open 108 = .ok (.iconst 4, 1) := by decide +kernel
theorem dX7_open_109 : decode cX7_open 109 = .ok (.invokevirtual 208, 3) := by decide +kernel
theorem dX7_open_112 : decode cX7_open 112 = .ok (.istore 7, 2) := by decide +kernel
theorem dX7_open_114 : decode cX7_open 114 = .ok (.iload 7, 2) := by decide +kernel
theorem dX7_open_116 : decode cX7_open 116 = .ok (.iload 5, 2) := by decide +kernel
theorem dX7_open_118 : decode cX7_open 118 = .ok (.if_icmp .ge 11, 3) := by decide +kernel
theorem dX7_open_121 : decode cX7_open 121 = .ok (.iload 7, 2) := by decide +kernel
theorem dX7_open_123 : decode cX7_open 123 = .ok (.istore 5, 2) := by decide +kernel
theorem dX7_open_125 : decode cX7_open 125 = .ok (.iload 6, 2) := by decide +kernel
theorem dX7_open_127 : decode cX7_open 127 = .ok (.istore 4, 2) := by decide +kernel
theorem dX7_open_129 : decode cX7_open 129 = .ok (.iinc 6 1, 3) := by decide +kernel
theorem dX7_open_132 : decode cX7_open 132 = .ok (.goto (-76), 3) := by decide +kernel
theorem dX7_open_135 : decode cX7_open 135 = .ok (.iload_n 3, 1) := by decide +kernel
theorem dX7_open_136 : decode cX7_open 136 = .ok (.ifCond .ne 8, 3) := by decide +kernel
theorem dX7_open_139 : decode cX7_open 139 = .ok (.iload 4, 2) := by decide +kernel
theorem dX7_open_141 : decode cX7_open 141 = .ok (.goto 5, 3) := by decide +kernel
theorem dX7_open_144 : decode cX7_open 144 = .ok (.iload 5, 2) := by decide +kernel
theorem dX7_open_146 : decode cX7_open 146 = .ok (.ireturn, 1) := by decide +kernel
theorem dX7_stand_0 : decode cX7_stand 0 = .ok (.aload_n 0, 1) := by decide +kernel
theorem dX7_stand_1 : decode cX7_stand 1 = .ok (.getfield 20, 3) := by decide +kernel
theorem dX7_stand_4 : decode cX7_stand 4 = .ok (.iload_n 1, 1) := by decide +kernel
theorem dX7_stand_5 : decode cX7_stand 5 = .ok (.invokevirtual 82, 3) := by decide +kernel
theorem dX7_stand_8 : decode cX7_stand 8 = .ok (.ifCond .eq 19, 3) := by decide +kernel
theorem dX7_stand_11 : decode cX7_stand 11 = .ok (.iload_n 2, 1) := by decide +kernel
theorem dX7_stand_12 : decode cX7_stand 12 = .ok (.invokestatic 131, 3) := by decide +kernel
theorem dX7_stand_15 : decode cX7_stand 15 = .ok (.ifCond .eq 12, 3) := by decide +kernel
theorem dX7_stand_18 : decode cX7_stand 18 = .ok (.iload_n 3, 1) := by decide +kernel
theorem dX7_stand_19 : decode cX7_stand 19 = .ok (.iconst 0, 1) := by decide +kernel
theorem dX7_stand_20 : decode cX7_stand 20 = .ok (.iconst 2, 1) := by decide +kernel
theorem dX7_stand_21 : decode cX7_stand 21 = .ok (.invokestatic 72, 3) := by decide +kernel
theorem dX7_stand_24 : decode cX7_stand 24 = .ok (.ifCond .ne 6, 3) := by decide +kernel
theorem dX7_stand_27 : decode cX7_stand 27 = .ok (.bipush (-2), 2) := by decide +kernel
theorem dX7_stand_29 : decode cX7_stand 29 = .ok (.ireturn, 1) := by decide +kernel
theorem dX7_stand_30 : decode cX7_stand 30 = .ok (.aload_n 0, 1) := by decide +kernel
theorem dX7_stand_31 : decode cX7_stand 31 = .ok (.iload_n 2, 1) := by decide +kernel
theorem dX7_stand_32 : decode cX7_stand 32 = .ok (.invokevirtual 167, 3) := by decide +kernel
theorem dX7_stand_35 : decode cX7_stand 35 = .ok (.aload_n 0, 1) := by decide +kernel
theorem dX7_stand_36 : decode cX7_stand 36 = .ok (.getfield 47, 3) := by decide +kernel
theorem dX7_stand_39 : decode cX7_stand 39 = .ok (.getfield 171, 3) := by decide +kernel
theorem dX7_stand_42 : decode cX7_stand 42 = .ok (.iload_n 1, 1) := by decide +kernel
theorem dX7_stand_43 : decode cX7_stand 43 = .ok (.aaload, 1) := by decide +kernel
theorem dX7_stand_44 : decode cX7_stand 44 = .ok (.astore 4, 2) := by decide +kernel
theorem dX7_stand_46 : decode cX7_stand 46 = .ok (.aload 4, 2) := by decide +kernel
theorem dX7_stand_48 : decode cX7_stand 48 = .ok (.getfield 157, 3) := by decide +kernel
theorem dX7_stand_51 : decode cX7_stand 51 = .ok (.aload_n 0, 1) := by decide +kernel
theorem dX7_stand_52 : decode cX7_stand 52 = .ok (.getfield 20, 3) := by decide +kernel
theorem dX7_stand_55 : decode cX7_stand 55 = .ok (.getfield 86, 3) := by decide +kernel
theorem dX7_stand_58 : decode cX7_stand 58 = .ok (.iload_n 1, 1) := by decide +kernel
theorem dX7_stand_59 : decode cX7_stand 59 = .ok (.iaload, 1) := by decide +kernel
theorem dX7_stand_60 : decode cX7_stand 60 = .ok (.isub, 1) := by decide +kernel
theorem dX7_stand_61 : decode cX7_stand 61 = .ok (.istore 5, 2) := by decide +kernel
theorem dX7_stand_63 : decode cX7_stand 63 = .ok (.aload 4, 2) := by decide +kernel
theorem dX7_stand_65 : decode cX7_stand 65 = .ok (.getfield 159, 3) := by decide +kernel
theorem dX7_stand_68 : decode cX7_stand 68 = .ok (.aload_n 0, 1) := by decide +kernel
theorem dX7_stand_69 : decode cX7_stand 69 = .ok (.getfield 20, 3) := by decide +kernel
theorem dX7_stand_72 : decode cX7_stand 72 = .ok (.getfield 89, 3) := by decide +kernel
theorem dX7_stand_75 : decode cX7_stand 75 = .ok (.iload_n 1, 1) := by decide +kernel
theorem dX7_stand_76 : decode cX7_stand 76 = .ok (.iaload, 1) := by decide +kernel
theorem dX7_stand_77 : decode cX7_stand 77 = .ok (.isub, 1) := by decide +kernel
theorem dX7_stand_78 : decode cX7_stand 78 = .ok (.istore 6, 2) := by decide +kernel
theorem dX7_stand_80 : decode cX7_stand 80 = .ok (.iconst 0, 1) := by decide +kernel
theorem dX7_stand_81 : decode cX7_stand 81 = .ok (.istore 7, 2) := by decide +kernel
theorem dX7_stand_83 : decode cX7_stand 83 = .ok (.iconst 0, 1) := by decide +kernel
theorem dX7_stand_84 : decode cX7_stand 84 = .ok (.istore 8, 2) := by decide +kernel
theorem dX7_stand_86 : decode cX7_stand 86 = .ok (.iconst (-1), 1) := by decide +kernel
theorem dX7_stand_87 : decode cX7_stand 87 = .ok (.istore 9, 2) := by decide +kernel
theorem dX7_stand_89 : decode cX7_stand 89 = .ok (.iconst 0, 1) := by decide +kernel
theorem dX7_stand_90 : decode cX7_stand 90 = .ok (.istore 10, 2) := by decide +kernel
theorem dX7_stand_92 : decode cX7_stand 92 = .ok (.iload 10, 2) := by decide +kernel
theorem dX7_stand_94 : decode cX7_stand 94 = .ok (.bipush 100, 2) := by decide +kernel
theorem dX7_stand_96 : decode cX7_stand 96 = .ok (.if_icmp .ge 72, 3) := by decide +kernel
theorem dX7_stand_99 : decode cX7_stand 99 = .ok (.aload 4, 2) := by decide +kernel
theorem dX7_stand_101 : decode cX7_stand 101 = .ok (.iload 10, 2) := by decide +kernel
theorem dX7_stand_103 : decode cX7_stand 103 = .ok (.bipush 10, 2) := by decide +kernel
theorem dX7_stand_105 : decode cX7_stand 105 = .ok (.idiv, 1) := by decide +kernel
theorem dX7_stand_106 : decode cX7_stand 106 = .ok (.iload 5, 2) := by decide +kernel
theorem dX7_stand_108 : decode cX7_stand 108 = .ok (.iadd, 1) := by decide +kernel
theorem dX7_stand_109 : decode cX7_stand 109 = .ok (.putfield 157, 3) := by decide +kernel
theorem dX7_stand_112 : decode cX7_stand 112 = .ok (.aload 4, 2) := by decide +kernel
theorem dX7_stand_114 : decode cX7_stand 114 = .ok (.iload 10, 2) := by decide +kernel
theorem dX7_stand_116 : decode cX7_stand 116 = .ok (.bipush 10, 2) := by decide +kernel
theorem dX7_stand_118 : decode cX7_stand 118 = .ok (.irem, 1) := by decide +kernel
theorem dX7_stand_119 : decode cX7_stand 119 = .ok (.iload 6, 2) := by decide +kernel
theorem dX7_stand_121 : decode cX7_stand 121 = .ok (.iadd, 1) := by decide +kernel
theorem dX7_stand_122 : decode cX7_stand 122 = .ok (.putfield 159, 3) := by decide +kernel
theorem dX7_stand_125 : decode cX7_stand 125 = .ok (.aload_n 0, 1) := by decide +kernel
theorem dX7_stand_126 : decode cX7_stand 126 = .ok (.getfield 47, 3) := by decide +kernel
theorem dX7_stand_129 : decode cX7_stand 129 = .ok (.iload_n 1, 1) := by decide +kernel
theorem dX7_stand_130 : decode cX7_stand 130 = .ok (.bipush 10, 2) := by decide +kernel
theorem dX7_stand_132 : decode cX7_stand 132 = .ok (.invokevirtual 208, 3) := by decide +kernel
theorem dX7_stand_135 : decode cX7_stand 135 = .ok (.istore 11, 2) := by decide +kernel
theorem dX7_stand_137 : decode cX7_stand 137 = .ok (.iload 11, 2) := by decide +kernel
theorem dX7_stand_139 : decode cX7_stand 139 = .ok (.iload 9, 2) := by decide +kernel
theorem dX7_stand_141 : decode cX7_stand 141 = .ok (.if_icmp .le 21, 3) := by decide +kernel
theorem dX7_stand_144 : decode cX7_stand 144 = .ok (.iload 11, 2) := by decide +kernel
theorem dX7_stand_146 : decode cX7_stand 146 = .ok (.istore 9, 2) := by decide +kernel
theorem dX7_stand_148 : decode cX7_stand 148 = .ok (.iload 10, 2) := by decide +kernel
theorem dX7_stand_150 : decode cX7_stand 150 = .ok (.bipush 10, 2) := by decide +kernel
theorem dX7_stand_152 : decode cX7_stand 152 = .ok (.idiv, 1) := by decide +kernel
theorem dX7_stand_153 : decode cX7_stand 153 = .ok (.istore 7, 2) := by decide +kernel
theorem dX7_stand_155 : decode cX7_stand 155 = .ok (.iload 10, 2) := by decide +kernel
theorem dX7_stand_157 : decode cX7_stand 157 = .ok (.bipush 10, 2) := by decide +kernel
theorem dX7_stand_159 : decode cX7_stand 159 = .ok (.irem, 1) := by decide +kernel
theorem dX7_stand_160 : decode cX7_stand 160 = .ok (.istore 8, 2) := by decide +kernel
theorem dX7_stand_162 : decode cX7_stand 162 = .ok (.iinc 10 1, 3) := by decide +kernel
theorem dX7_stand_165 : decode cX7_stand 165 = .ok (.goto (-73), 3) := by decide +kernel
theorem dX7_stand_168 : decode cX7_stand 168 = .ok (.iload_n 3, 1) := by decide +kernel
theorem dX7_stand_169 : decode cX7_stand 169 = .ok (.iload 7, 2) := by decide +kernel
theorem dX7_stand_171 : decode cX7_stand 171 = .ok (.iload 8, 2) := by decide +kernel
theorem dX7_stand_173 : decode cX7_stand 173 = .ok (.iload 9, 2) := by decide +kernel
theorem dX7_stand_175 : decode cX7_stand 175 = .ok (.invokestatic 200, 3) := by decide +kernel
theorem dX7_stand_178 : decode cX7_stand 178 = .ok (.ireturn, 1) := by decide +kernel
theorem dX7_swap_0 : decode cX7_swap 0 = .ok (.iload_n 1, 1) := by decide +kernel
theorem dX7_swap_1 : decode cX7_swap 1 = .ok (.iconst 0, 1) := by decide +kernel
theorem dX7_swap_2 : decode cX7_swap 2 = .ok (.iconst 2, 1) := by decide +kernel
theorem dX7_swap_3 : decode cX7_swap 3 = .ok (.invokestatic 72, 3) := by decide +kernel
theorem dX7_swap_6 : decode cX7_swap 6 = .ok (.ifCond .ne 6, 3) := by decide +kernel
theorem dX7_swap_9 : decode cX7_swap 9 = .ok (.bipush (-2), 2) := by decide +kernel
theorem dX7_swap_11 : decode cX7_swap 11 = .ok (.ireturn, 1) := by decide +kernel
theorem dX7_swap_12 : decode cX7_swap 12 = .ok (.aload_n 0, 1) := by decide +kernel
theorem dX7_swap_13 : decode cX7_swap 13 = .ok (.getfield 20, 3) := by decide +kernel
theorem dX7_swap_16 : decode cX7_swap 16 = .ok (.getfield 212, 3) := by decide +kernel
theorem dX7_swap_19 : decode cX7_swap 19 = .ok (.iconst 2, 1) := by decide +kernel
theorem dX7_swap_20 : decode cX7_swap 20 = .ok (.if_icmp .ge 5, 3) := by decide +kernel
theorem dX7_swap_23 : decode cX7_swap 23 = .ok (.iconst (-1), 1) := by decide +kernel
theorem dX7_swap_24 : decode cX7_swap 24 = .ok (.ireturn, 1) := by decide +kernel
theorem dX7_swap_25 : decode cX7_swap 25 = .ok (.aload_n 0, 1) := by decide +kernel
theorem dX7_swap_26 : decode cX7_swap 26 = .ok (.getfield 24, 3) := by decide +kernel
theorem dX7_swap_29 : decode cX7_swap 29 = .ok (.aload_n 0, 1) := by decide +kernel
theorem dX7_swap_30 : decode cX7_swap 30 = .ok (.getfield 20, 3) := by decide +kernel
theorem dX7_swap_33 : decode cX7_swap 33 = .ok (.invokevirtual 204, 3) := by decide +kernel
theorem dX7_swap_36 : decode cX7_swap 36 = .ok (.iconst 0, 1) := by decide +kernel
theorem dX7_swap_37 : decode cX7_swap 37 = .ok (.istore_n 2, 1) := by decide +kernel
theorem dX7_swap_38 : decode cX7_swap 38 = .ok (.iconst 1, 1) := by decide +kernel
theorem dX7_swap_39 : decode cX7_swap 39 = .ok (.istore_n 3, 1) := by decide +kernel
theorem dX7_swap_40 : decode cX7_swap 40 = .ok (.bipush 64, 2) := by decide +kernel
theorem dX7_swap_42 : decode cX7_swap 42 = .ok (.istore 4, 2) := by decide +kernel
theorem dX7_swap_44 : decode cX7_swap 44 = .ok (.iconst 0, 1) := by decide +kernel
theorem dX7_swap_45 : decode cX7_swap 45 = .ok (.istore 5, 2) := by decide +kernel
theorem dX7_swap_47 : decode cX7_swap 47 = .ok (.iload 5, 2) := by decide +kernel
theorem dX7_swap_49 : decode cX7_swap 49 = .ok (.aload_n 0, 1) := by decide +kernel
theorem dX7_swap_50 : decode cX7_swap 50 = .ok (.getfield 20, 3) := by decide +kernel
theorem dX7_swap_53 : decode cX7_swap 53 = .ok (.getfield 212, 3) := by decide +kernel
theorem dX7_swap_56 : decode cX7_swap 56 = .ok (.if_icmp .ge 60, 3) := by decide +kernel
theorem dX7_swap_59 : decode cX7_swap 59 = .ok (.iload 5, 2) := by decide +kernel
theorem dX7_swap_61 : decode cX7_swap 61 = .ok (.iconst 1, 1) := by decide +kernel
theorem dX7_swap_62 : decode cX7_swap 62 = .ok (.iadd, 1) := by decide +kernel
theorem dX7_swap_63 : decode cX7_swap 63 = .ok (.istore 6, 2) := by decide +kernel
theorem dX7_swap_65 : decode cX7_swap 65 = .ok (.iload 6, 2) := by decide +kernel
theorem dX7_swap_67 : decode cX7_swap 67 = .ok (.aload_n 0, 1) := by decide +kernel
theorem dX7_swap_68 : decode cX7_swap 68 = .ok (.getfield 20, 3) := by decide +kernel
theorem dX7_swap_71 : decode cX7_swap 71 = .ok (.getfield 212, 3) := by decide +kernel
theorem dX7_swap_74 : decode cX7_swap 74 = .ok (.if_icmp .ge 36, 3) := by decide +kernel
theorem dX7_swap_77 : decode cX7_swap 77 = .ok (.aload_n 0, 1) := by decide +kernel
theorem dX7_swap_78 : decode cX7_swap 78 = .ok (.iload 5, 2) := by decide +kernel
theorem dX7_swap_80 : decode cX7_swap 80 = .ok (.iload 6, 2) := by decide +kernel
theorem dX7_swap_82 : decode cX7_swap 82 = .ok (.invokevirtual 213, 3) := by decide +kernel
theorem dX7_swap_85 : decode cX7_swap 85 = .ok (.istore 7, 2) := by decide +kernel
theorem dX7_swap_87 : decode cX7_swap 87 = .ok (.iload 7, 2) := by decide +kernel
theorem dX7_swap_89 : decode cX7_swap 89 = .ok (.iload 4, 2) := by decide +kernel
theorem dX7_swap_91 : decode cX7_swap 91 = .ok (.if_icmp .ge 13, 3) := by decide +kernel
theorem dX7_swap_94 : decode cX7_swap 94 = .ok (.iload 7, 2) := by decide +kernel
theorem dX7_swap_96 : decode cX7_swap 96 = .ok (.istore 4, 2) := by decide +kernel
theorem dX7_swap_98 : decode cX7_swap 98 = .ok (.iload 5, 2) := by decide +kernel
theorem dX7_swap_100 : decode cX7_swap 100 = .ok (.istore_n 2, 1) := by decide +kernel
theorem dX7_swap_101 : decode cX7_swap 101 = .ok (.iload 6, 2) := by decide +kernel
theorem dX7_swap_103 : decode cX7_swap 103 = .ok (.istore_n 3, 1) := by decide +kernel
theorem dX7_swap_104 : decode cX7_swap 104 = .ok (.iinc 6 1, 3) := by decide +kernel
theorem dX7_swap_107 : decode cX7_swap 107 = .ok (.goto (-42), 3) := by decide +kernel
theorem dX7_swap_110 : decode cX7_swap 110 = .ok (.iinc 5 1, 3) := by decide +kernel
theorem dX7_swap_113 : decode cX7_swap 113 = .ok (.goto (-66), 3) := by decide +kernel
theorem dX7_swap_116 : decode cX7_swap 116 = .ok (.iload_n 1, 1) := by decide +kernel
theorem dX7_swap_117 : decode cX7_swap 117 = .ok (.iload_n 2, 1) := by decide +kernel
theorem dX7_swap_118 : decode cX7_swap 118 = .ok (.iload_n 3, 1) := by decide +kernel
theorem dX7_swap_119 : decode cX7_swap 119 = .ok (.iload 4, 2) := by decide +kernel
theorem dX7_swap_121 : decode cX7_swap 121 = .ok (.invokestatic 200, 3) := by decide +kernel
theorem dX7_swap_124 : decode cX7_swap 124 = .ok (.ireturn, 1) := by decide +kernel
theorem dX7_drop_0 : decode cX7_drop 0 = .ok (.iload_n 1, 1) := by decide +kernel
theorem dX7_drop_1 : decode cX7_drop 1 = .ok (.iconst (-1), 1) := by decide +kernel
theorem dX7_drop_2 : decode cX7_drop 2 = .ok (.iconst 1, 1) := by decide +kernel
theorem dX7_drop_3 : decode cX7_drop 3 = .ok (.invokestatic 72, 3) := by decide +kernel
theorem dX7_drop_6 : decode cX7_drop 6 = .ok (.ifCond .ne 6, 3) := by decide +kernel
theorem dX7_drop_9 : decode cX7_drop 9 = .ok (.bipush (-2), 2) := by decide +kernel
theorem dX7_drop_11 : decode cX7_drop 11 = .ok (.ireturn, 1) := by decide +kernel
theorem dX7_drop_12 : decode cX7_drop 12 = .ok (.aload_n 0, 1) := by decide +kernel
theorem dX7_drop_13 : decode cX7_drop 13 = .ok (.invokevirtual 216, 3) := by decide +kernel
theorem dX7_drop_16 : decode cX7_drop 16 = .ok (.istore_n 2, 1) := by decide +kernel
theorem dX7_drop_17 : decode cX7_drop 17 = .ok (.iload_n 2, 1) := by decide +kernel
theorem dX7_drop_18 : decode cX7_drop 18 = .ok (.iconst (-1), 1) := by decide +kernel
theorem dX7_drop_19 : decode cX7_drop 19 = .ok (.if_icmp .ne 5, 3) := by decide +kernel
theorem dX7_drop_22 : decode cX7_drop 22 = .ok (.iconst (-1), 1) := by decide +kernel
theorem dX7_drop_23 : decode cX7_drop 23 = .ok (.ireturn, 1) := by decide +kernel
theorem dX7_drop_24 : decode cX7_drop 24 = .ok (.iload_n 1, 1) := by decide +kernel
theorem dX7_drop_25 : decode cX7_drop 25 = .ok (.iconst (-1), 1) := by decide +kernel
theorem dX7_drop_26 : decode cX7_drop 26 = .ok (.if_icmp .ne 10, 3) := by decide +kernel
theorem dX7_drop_29 : decode cX7_drop 29 = .ok (.iload_n 2, 1) := by decide +kernel
theorem dX7_drop_30 : decode cX7_drop 30 = .ok (.invokestatic 219, 3) := by decide +kernel
theorem dX7_drop_33 : decode cX7_drop 33 = .ok (.goto 8, 3) := by decide +kernel
theorem dX7_drop_36 : decode cX7_drop 36 = .ok (.iload_n 2, 1) := by decide +kernel
theorem dX7_drop_37 : decode cX7_drop 37 = .ok (.iload_n 1, 1) := by decide +kernel
theorem dX7_drop_38 : decode cX7_drop 38 = .ok (.invokestatic 224, 3) := by decide +kernel
theorem dX7_drop_41 : decode cX7_drop 41 = .ok (.ireturn, 1) := by decide +kernel
theorem dX7_seen_0 : decode cX7_seen 0 = .ok (.iload_n 1, 1) := by decide +kernel
theorem dX7_seen_1 : decode cX7_seen 1 = .ok (.invokestatic 131, 3) := by decide +kernel
theorem dX7_seen_4 : decode cX7_seen 4 = .ok (.ifCond .eq 17, 3) := by decide +kernel
theorem dX7_seen_7 : decode cX7_seen 7 = .ok (.iload_n 2, 1) := by decide +kernel
theorem dX7_seen_8 : decode cX7_seen 8 = .ok (.iconst 0, 1) := by decide +kernel
theorem dX7_seen_9 : decode cX7_seen 9 = .ok (.bipush 7, 2) := by decide +kernel
theorem dX7_seen_11 : decode cX7_seen 11 = .ok (.invokestatic 72, 3) := by decide +kernel
theorem dX7_seen_14 : decode cX7_seen 14 = .ok (.ifCond .eq 7, 3) := by decide +kernel
theorem dX7_seen_17 : decode cX7_seen 17 = .ok (.iconst 1, 1) := by decide +kernel
theorem dX7_seen_18 : decode cX7_seen 18 = .ok (.goto 4, 3) := by decide +kernel
theorem dX7_seen_21 : decode cX7_seen 21 = .ok (.iconst 0, 1) := by decide +kernel
theorem dX7_seen_22 : decode cX7_seen 22 = .ok (.istore 5, 2) := by decide +kernel
theorem dX7_seen_24 : decode cX7_seen 24 = .ok (.iload 5, 2) := by decide +kernel
theorem dX7_seen_26 : decode cX7_seen 26 = .ok (.ifCond .eq 26, 3) := by decide +kernel
theorem dX7_seen_29 : decode cX7_seen 29 = .ok (.iload_n 3, 1) := by decide +kernel
theorem dX7_seen_30 : decode cX7_seen 30 = .ok (.bipush (-99), 2) := by decide +kernel
theorem dX7_seen_32 : decode cX7_seen 32 = .ok (.bipush 99, 2) := by decide +kernel
theorem dX7_seen_34 : decode cX7_seen 34 = .ok (.invokestatic 72, 3) := by decide +kernel
theorem dX7_seen_37 : decode cX7_seen 37 = .ok (.ifCond .eq 15, 3) := by decide +kernel
theorem dX7_seen_40 : decode cX7_seen 40 = .ok (.iload 4, 2) := by decide +kernel
theorem dX7_seen_42 : decode cX7_seen 42 = .ok (.bipush (-99), 2) := by decide +kernel
theorem dX7_seen_44 : decode cX7_seen 44 = .ok (.bipush 99, 2) := by decide +kernel
theorem dX7_seen_46 : decode cX7_seen 46 = .ok (.invokestatic 72, 3) := by decide +kernel
theorem dX7_seen_49 : decode cX7_seen 49 = .ok (.ifCond .ne 6, 3) := by decide +kernel
theorem dX7_seen_52 : decode cX7_seen 52 = .ok (.bipush (-2), 2) := by decide +kernel
theorem dX7_seen_54 : decode cX7_seen 54 = .ok (.ireturn, 1) := by decide +kernel
theorem dX7_seen_55 : decode cX7_seen 55 = .ok (.aload_n 0, 1) := by decide +kernel
theorem dX7_seen_56 : decode cX7_seen 56 = .ok (.getfield 40, 3) := by decide +kernel
theorem dX7_seen_59 : decode cX7_seen 59 = .ok (.invokevirtual 227, 3) := by decide +kernel
theorem dX7_seen_62 : decode cX7_seen 62 = .ok (.ifCond .eq 6, 3) := by decide +kernel
theorem dX7_seen_65 : decode cX7_seen 65 = .ok (.bipush (-4), 2) := by decide +kernel
theorem dX7_seen_67 : decode cX7_seen 67 = .ok (.ireturn, 1) := by decide +kernel
theorem dX7_seen_68 : decode cX7_seen 68 = .ok (.aload_n 0, 1) := by decide +kernel
theorem dX7_seen_69 : decode cX7_seen 69 = .ok (.getfield 40, 3) := by decide +kernel
theorem dX7_seen_72 : decode cX7_seen 72 = .ok (.iload_n 1, 1) := by decide +kernel
theorem dX7_seen_73 : decode cX7_seen 73 = .ok (.iload_n 2, 1) := by decide +kernel
theorem dX7_seen_74 : decode cX7_seen 74 = .ok (.iload_n 3, 1) := by decide +kernel
theorem dX7_seen_75 : decode cX7_seen 75 = .ok (.iload 4, 2) := by decide +kernel
theorem dX7_seen_77 : decode cX7_seen 77 = .ok (.invokevirtual 228, 3) := by decide +kernel
theorem dX7_seen_80 : decode cX7_seen 80 = .ok (.aload_n 0, 1) := by decide +kernel
theorem dX7_seen_81 : decode cX7_seen 81 = .ok (.getfield 40, 3) := by decide +kernel
theorem dX7_seen_84 : decode cX7_seen 84 = .ok (.getfield 231, 3) := by decide +kernel
theorem dX7_seen_87 : decode cX7_seen 87 = .ok (.ireturn, 1) := by decide +kernel
theorem dX7_forget_0 : decode cX7_forget 0 = .ok (.aload_n 0, 1) := by decide +kernel
theorem dX7_forget_1 : decode cX7_forget 1 = .ok (.getfield 40, 3) := by decide +kernel
theorem dX7_forget_4 : decode cX7_forget 4 = .ok (.getfield 231, 3) := by decide +kernel
theorem dX7_forget_7 : decode cX7_forget 7 = .ok (.istore_n 1, 1) := by decide +kernel
theorem dX7_forget_8 : decode cX7_forget 8 = .ok (.aload_n 0, 1) := by decide +kernel
theorem dX7_forget_9 : decode cX7_forget 9 = .ok (.getfield 40, 3) := by decide +kernel
theorem dX7_forget_12 : decode cX7_forget 12 = .ok (.iconst 0, 1) := by decide +kernel
theorem dX7_forget_13 : decode cX7_forget 13 = .ok (.putfield 231, 3) := by decide +kernel
theorem dX7_forget_16 : decode cX7_forget 16 = .ok (.iload_n 1, 1) := by decide +kernel
theorem dX7_forget_17 : decode cX7_forget 17 = .ok (.ireturn, 1) := by decide +kernel
theorem dX7_never_0 : decode cX7_never 0 = .ok (.iconst 0, 1) := by decide +kernel
theorem dX7_never_1 : decode cX7_never 1 = .ok (.istore_n 1, 1) := by decide +kernel
theorem dX7_never_2 : decode cX7_never 2 = .ok (.iconst 0, 1) := by decide +kernel
theorem dX7_never_3 : decode cX7_never 3 = .ok (.istore_n 2, 1) := by decide +kernel
theorem dX7_never_4 : decode cX7_never 4 = .ok (.iload_n 2, 1) := by decide +kernel
theorem dX7_never_5 : decode cX7_never 5 = .ok (.aload_n 0, 1) := by decide +kernel
theorem dX7_never_6 : decode cX7_never 6 = .ok (.getfield 30, 3) := by decide +kernel
theorem dX7_never_9 : decode cX7_never 9 = .ok (.getfield 110, 3) := by decide +kernel
theorem dX7_never_12 : decode cX7_never 12 = .ok (.if_icmp .ge 50, 3) := by decide +kernel
theorem dX7_never_15 : decode cX7_never 15 = .ok (.aload_n 0, 1) := by decide +kernel
theorem dX7_never_16 : decode cX7_never 16 = .ok (.getfield 40, 3) := by decide +kernel
theorem dX7_never_19 : decode cX7_never 19 = .ok (.aload_n 0, 1) := by decide +kernel
theorem dX7_never_20 : decode cX7_never 20 = .ok (.getfield 20, 3) := by decide +kernel
theorem dX7_never_23 : decode cX7_never 23 = .ok (.aload_n 0, 1) := by decide +kernel
theorem dX7_never_24 : decode cX7_never 24 = .ok (.getfield 30, 3) := by decide +kernel
theorem dX7_never_27 : decode cX7_never 27 = .ok (.aload_n 0, 1) := by decide +kernel
theorem dX7_never_28 : decode cX7_never 28 = .ok (.getfield 30, 3) := by decide +kernel
theorem dX7_never_31 : decode cX7_never 31 = .ok (.invokevirtual 134, 3) := by decide +kernel
theorem dX7_never_34 : decode cX7_never 34 = .ok (.iconst 1, 1) := by decide +kernel
theorem dX7_never_35 : decode cX7_never 35 = .ok (.iload_n 2, 1) := by decide +kernel
theorem dX7_never_36 : decode cX7_never 36 = .ok (.ishl, 1) := by decide +kernel
theorem dX7_never_37 : decode cX7_never 37 = .ok (.iconst (-1), 1) := by decide +kernel
theorem dX7_never_38 : decode cX7_never 38 = .ok (.ixor, 1) := by decide +kernel
theorem dX7_never_39 : decode cX7_never 39 = .ok (.iand, 1) := by decide +kernel
theorem dX7_never_40 : decode cX7_never 40 = .ok (.aload_n 0, 1) := by decide +kernel
theorem dX7_never_41 : decode cX7_never 41 = .ok (.getfield 54, 3) := by decide +kernel
theorem dX7_never_44 : decode cX7_never 44 = .ok (.invokevirtual 232, 3) := by decide +kernel
theorem dX7_never_47 : decode cX7_never 47 = .ok (.ifCond .eq 9, 3) := by decide +kernel
theorem dX7_never_50 : decode cX7_never 50 = .ok (.iload_n 1, 1) := by decide +kernel
theorem dX7_never_51 : decode cX7_never 51 = .ok (.iconst 1, 1) := by decide +kernel
theorem dX7_never_52 : decode cX7_never 52 = .ok (.iload_n 2, 1) := by decide +kernel
theorem dX7_never_53 : decode cX7_never 53 = .ok (.ishl, 1) := by decide +kernel
theorem dX7_never_54 : decode cX7_never 54 = .ok (.ior, 1) := by decide +kernel
theorem dX7_never_55 : decode cX7_never 55 = .ok (.istore_n 1, 1) := by decide +kernel
theorem dX7_never_56 : decode cX7_never 56 = .ok (.iinc 2 1, 3) := by decide +kernel
theorem dX7_never_59 : decode cX7_never 59 = .ok (.goto (-55), 3) := by decide +kernel
theorem dX7_never_62 : decode cX7_never 62 = .ok (.iload_n 1, 1) := by decide +kernel
theorem dX7_never_63 : decode cX7_never 63 = .ok (.ireturn, 1) := by decide +kernel
theorem dX7_was_0 : decode cX7_was 0 = .ok (.aload_n 0, 1) := by decide +kernel
theorem dX7_was_1 : decode cX7_was 1 = .ok (.getfield 20, 3) := by decide +kernel
theorem dX7_was_4 : decode cX7_was 4 = .ok (.iload_n 1, 1) := by decide +kernel
theorem dX7_was_5 : decode cX7_was 5 = .ok (.invokevirtual 82, 3) := by decide +kernel
theorem dX7_was_8 : decode cX7_was 8 = .ok (.ifCond .eq 12, 3) := by decide +kernel
theorem dX7_was_11 : decode cX7_was 11 = .ok (.iload_n 2, 1) := by decide +kernel
theorem dX7_was_12 : decode cX7_was 12 = .ok (.iconst 0, 1) := by decide +kernel
theorem dX7_was_13 : decode cX7_was 13 = .ok (.iconst 1, 1) := by decide +kernel
theorem dX7_was_14 : decode cX7_was 14 = .ok (.invokestatic 72, 3) := by decide +kernel
theorem dX7_was_17 : decode cX7_was 17 = .ok (.ifCond .ne 6, 3) := by decide +kernel
theorem dX7_was_20 : decode cX7_was 20 = .ok (.bipush (-2), 2) := by decide +kernel
theorem dX7_was_22 : decode cX7_was 22 = .ok (.ireturn, 1) := by decide +kernel
theorem dX7_was_23 : decode cX7_was 23 = .ok (.iload_n 2, 1) := by decide +kernel
theorem dX7_was_24 : decode cX7_was 24 = .ok (.ifCond .ne 20, 3) := by decide +kernel
theorem dX7_was_27 : decode cX7_was 27 = .ok (.aload_n 0, 1) := by decide +kernel
theorem dX7_was_28 : decode cX7_was 28 = .ok (.iload_n 1, 1) := by decide +kernel
theorem dX7_was_29 : decode cX7_was 29 = .ok (.aload_n 0, 1) := by decide +kernel
theorem dX7_was_30 : decode cX7_was 30 = .ok (.getfield 24, 3) := by decide +kernel
theorem dX7_was_33 : decode cX7_was 33 = .ok (.getfield 92, 3) := by decide +kernel
theorem dX7_was_36 : decode cX7_was 36 = .ok (.bipush 10, 2) := by decide +kernel
theorem dX7_was_38 : decode cX7_was 38 = .ok (.invokevirtual 236, 3) := by decide +kernel
theorem dX7_was_41 : decode cX7_was 41 = .ok (.goto 16, 3) := by decide +kernel
theorem dX7_was_44 : decode cX7_was 44 = .ok (.aload_n 0, 1) := by decide +kernel
theorem dX7_was_45 : decode cX7_was 45 = .ok (.iload_n 1, 1) := by decide +kernel
theorem dX7_was_46 : decode cX7_was 46 = .ok (.aload_n 0, 1) := by decide +kernel
theorem dX7_was_47 : decode cX7_was 47 = .ok (.getfield 24, 3) := by decide +kernel
theorem dX7_was_50 : decode cX7_was 50 = .ok (.getfield 95, 3) := by decide +kernel
theorem dX7_was_53 : decode cX7_was 53 = .ok (.iconst 3, 1) := by decide +kernel
theorem dX7_was_54 : decode cX7_was 54 = .ok (.invokevirtual 236, 3) := by decide +kernel
theorem dX7_was_57 : decode cX7_was 57 = .ok (.ireturn, 1) := by decide +kernel
theorem dX7_ask_0 : decode cX7_ask 0 = .ok (.aload_n 0, 1) := by decide +kernel
theorem dX7_ask_1 : decode cX7_ask 1 = .ok (.getfield 20, 3) := by decide +kernel
theorem dX7_ask_4 : decode cX7_ask 4 = .ok (.iload_n 1, 1) := by decide +kernel
theorem dX7_ask_5 : decode cX7_ask 5 = .ok (.invokevirtual 82, 3) := by decide +kernel
theorem dX7_ask_8 : decode cX7_ask 8 = .ok (.ifCond .ne 6, 3) := by decide +kernel
theorem dX7_ask_11 : decode cX7_ask 11 = .ok (.bipush (-2), 2) := by decide +kernel
theorem dX7_ask_13 : decode cX7_ask 13 = .ok (.ireturn, 1) := by decide +kernel
theorem dX7_ask_14 : decode cX7_ask 14 = .ok (.aload_n 0, 1) := by decide +kernel
theorem dX7_ask_15 : decode cX7_ask 15 = .ok (.iload_n 1, 1) := by decide +kernel
theorem dX7_ask_16 : decode cX7_ask 16 = .ok (.aload_n 0, 1) := by decide +kernel
theorem dX7_ask_17 : decode cX7_ask 17 = .ok (.getfield 24, 3) := by decide +kernel
theorem dX7_ask_20 : decode cX7_ask 20 = .ok (.getfield 92, 3) := by decide +kernel
theorem dX7_ask_23 : decode cX7_ask 23 = .ok (.bipush 10, 2) := by decide +kernel
theorem dX7_ask_25 : decode cX7_ask 25 = .ok (.invokevirtual 236, 3) := by decide +kernel
theorem dX7_ask_28 : decode cX7_ask 28 = .ok (.istore_n 2, 1) := by decide +kernel
theorem dX7_ask_29 : decode cX7_ask 29 = .ok (.iconst 0, 1) := by decide +kernel
theorem dX7_ask_30 : decode cX7_ask 30 = .ok (.istore_n 3, 1) := by decide +kernel
theorem dX7_ask_31 : decode cX7_ask 31 = .ok (.bipush 11, 2) := by decide +kernel
theorem dX7_ask_33 : decode cX7_ask 33 = .ok (.istore 4, 2) := by decide +kernel
theorem dX7_ask_35 : decode cX7_ask 35 = .ok (.iconst 0, 1) := by decide +kernel
theorem dX7_ask_36 : decode cX7_ask 36 = .ok (.istore 5, 2) := by decide +kernel
theorem dX7_ask_38 : decode cX7_ask 38 = .ok (.iload 5, 2) := by decide +kernel
theorem dX7_ask_40 : decode cX7_ask 40 = .ok (.bipush 20, 2) := by decide +kernel
theorem dX7_ask_42 : decode cX7_ask 42 = .ok (.if_icmp .ge 33, 3) := by decide +kernel
theorem dX7_ask_45 : decode cX7_ask 45 = .ok (.aload_n 0, 1) := by decide +kernel
theorem dX7_ask_46 : decode cX7_ask 46 = .ok (.iload_n 1, 1) := by decide +kernel
theorem dX7_ask_47 : decode cX7_ask 47 = .ok (.iload_n 2, 1) := by decide +kernel
theorem dX7_ask_48 : decode cX7_ask 48 = .ok (.iload 5, 2) := by decide +kernel
theorem dX7_ask_50 : decode cX7_ask 50 = .ok (.invokevirtual 240, 3) := by decide +kernel
theorem dX7_ask_53 : decode cX7_ask 53 = .ok (.istore 6, 2) := by decide +kernel
theorem dX7_ask_55 : decode cX7_ask 55 = .ok (.iload 6, 2) := by decide +kernel
theorem dX7_ask_57 : decode cX7_ask 57 = .ok (.iload 4, 2) := by decide +kernel
theorem dX7_ask_59 : decode cX7_ask 59 = .ok (.if_icmp .ge 10, 3) := by decide +kernel
theorem dX7_ask_62 : decode cX7_ask 62 = .ok (.iload 6, 2) := by decide +kernel
theorem dX7_ask_64 : decode cX7_ask 64 = .ok (.istore 4, 2) := by decide +kernel
theorem dX7_ask_66 : decode cX7_ask 66 = .ok (.iload 5, 2) := by decide +kernel
theorem dX7_ask_68 : decode cX7_ask 68 = .ok (.istore_n 3, 1) := by decide +kernel
theorem dX7_ask_69 : decode cX7_ask 69 = .ok (.iinc 5 1, 3) := by decide +kernel
theorem dX7_ask_72 : decode cX7_ask 72 = .ok (.goto (-34), 3) := by decide +kernel
theorem dX7_ask_75 : decode cX7_ask 75 = .ok (.iload_n 3, 1) := by decide +kernel
theorem dX7_ask_76 : decode cX7_ask 76 = .ok (.ireturn, 1) := by decide +kernel
theorem dX7_gossip_0 : decode cX7_gossip 0 = .ok (.iload_n 1, 1) := by decide +kernel
theorem dX7_gossip_1 : decode cX7_gossip 1 = .ok (.iconst 0, 1) := by decide +kernel
theorem dX7_gossip_2 : decode cX7_gossip 2 = .ok (.bipush 16, 2) := by decide +kernel
theorem dX7_gossip_4 : decode cX7_gossip 4 = .ok (.invokestatic 72, 3) := by decide +kernel
theorem dX7_gossip_7 : decode cX7_gossip 7 = .ok (.ifCond .eq 19, 3) := by decide +kernel
theorem dX7_gossip_10 : decode cX7_gossip 10 = .ok (.iload_n 2, 1) := by decide +kernel
theorem dX7_gossip_11 : decode cX7_gossip 11 = .ok (.invokestatic 131, 3) := by decide +kernel
theorem dX7_gossip_14 : decode cX7_gossip 14 = .ok (.ifCond .eq 12, 3) := by decide +kernel
theorem dX7_gossip_17 : decode cX7_gossip 17 = .ok (.iload_n 3, 1) := by decide +kernel
theorem dX7_gossip_18 : decode cX7_gossip 18 = .ok (.iconst 0, 1) := by decide +kernel
theorem dX7_gossip_19 : decode cX7_gossip 19 = .ok (.iconst 1, 1) := by decide +kernel
theorem dX7_gossip_20 : decode cX7_gossip 20 = .ok (.invokestatic 72, 3) := by decide +kernel
theorem dX7_gossip_23 : decode cX7_gossip 23 = .ok (.ifCond .ne 7, 3) := by decide +kernel
theorem dX7_gossip_26 : decode cX7_gossip 26 = .ok (.ldc2_w 244, 3) := by decide +kernel
theorem dX7_gossip_29 : decode cX7_gossip 29 = .ok (.lreturn, 1) := by decide +kernel
theorem dX7_gossip_30 : decode cX7_gossip 30 = .ok (.iconst 4, 1) := by decide +kernel
theorem dX7_gossip_31 : decode cX7_gossip 31 = .ok (.aload_n 0, 1) := by decide +kernel
theorem dX7_gossip_32 : decode cX7_gossip 32 = .ok (.getfield 30, 3) := by decide +kernel
theorem dX7_gossip_35 : decode cX7_gossip 35 = .ok (.getfield 110, 3) := by decide +kernel
theorem dX7_gossip_38 : decode cX7_gossip 38 = .ok (.imul, 1) := by decide +kernel
theorem dX7_gossip_39 : decode cX7_gossip 39 = .ok (.istore 4, 2) := by decide +kernel
theorem dX7_gossip_41 : decode cX7_gossip 41 = .ok (.aload_n 0, 1) := by decide +kernel
theorem dX7_gossip_42 : decode cX7_gossip 42 = .ok (.iload_n 1, 1) := by decide +kernel
theorem dX7_gossip_43 : decode cX7_gossip 43 = .ok (.iload_n 2, 1) := by decide +kernel
theorem dX7_gossip_44 : decode cX7_gossip 44 = .ok (.invokevirtual 246, 3) := by decide +kernel
theorem dX7_gossip_47 : decode cX7_gossip 47 = .ok (.lstore 5, 2) := by decide +kernel
theorem dX7_gossip_49 : decode cX7_gossip 49 = .ok (.lconst 1, 1) := by decide +kernel
theorem dX7_gossip_50 : decode cX7_gossip 50 = .ok (.iload 4, 2) := by decide +kernel
theorem dX7_gossip_52 : decode cX7_gossip 52 = .ok (.lshl, 1) := by decide +kernel
theorem dX7_gossip_53 : decode cX7_gossip 53 = .ok (.lstore 7, 2) := by decide +kernel
theorem dX7_gossip_55 : decode cX7_gossip 55 = .ok (.iconst 0, 1) := by decide +kernel
theorem dX7_gossip_56 : decode cX7_gossip 56 = .ok (.istore 9, 2) := by decide +kernel
theorem dX7_gossip_58 : decode cX7_gossip 58 = .ok (.iload 9, 2) := by decide +kernel
theorem dX7_gossip_60 : decode cX7_gossip 60 = .ok (.iload 4, 2) := by decide +kernel
theorem dX7_gossip_62 : decode cX7_gossip 62 = .ok (.if_icmp .ge 30, 3) := by decide +kernel
theorem dX7_gossip_65 : decode cX7_gossip 65 = .ok (.lload 5, 2) := by decide +kernel
theorem dX7_gossip_67 : decode cX7_gossip 67 = .ok (.lconst 1, 1) := by decide +kernel
theorem dX7_gossip_68 : decode cX7_gossip 68 = .ok (.land, 1) := by decide +kernel
theorem dX7_gossip_69 : decode cX7_gossip 69 = .ok (.lconst 0, 1) := by decide +kernel
theorem dX7_gossip_70 : decode cX7_gossip 70 = .ok (.lcmp, 1) := by decide +kernel
theorem dX7_gossip_71 : decode cX7_gossip 71 = .ok (.ifCond .ne 21, 3) := by decide +kernel
theorem dX7_gossip_74 : decode cX7_gossip 74 = .ok (.lload 5, 2) := by decide +kernel
theorem dX7_gossip_76 : decode cX7_gossip 76 = .ok (.iconst 1, 1) := by decide +kernel
theorem dX7_gossip_77 : decode cX7_gossip 77 = .ok (.lshr, 1) := by decide +kernel
theorem dX7_gossip_78 : decode cX7_gossip 78 = .ok (.lstore 5, 2) := by decide +kernel
theorem dX7_gossip_80 : decode cX7_gossip 80 = .ok (.lload 7, 2) := by decide +kernel
theorem dX7_gossip_82 : decode cX7_gossip 82 = .ok (.iconst 1, 1) := by decide +kernel
theorem dX7_gossip_83 : decode cX7_gossip 83 = .ok (.lshr, 1) := by decide +kernel
theorem dX7_gossip_84 : decode cX7_gossip 84 = .ok (.lstore 7, 2) := by decide +kernel
theorem dX7_gossip_86 : decode cX7_gossip 86 = .ok (.iinc 9 1, 3) := by decide +kernel
theorem dX7_gossip_89 : decode cX7_gossip 89 = .ok (.goto (-31), 3) := by decide +kernel
theorem dX7_gossip_92 : decode cX7_gossip 92 = .ok (.iload_n 3, 1) := by decide +kernel
theorem dX7_gossip_93 : decode cX7_gossip 93 = .ok (.ifCond .ne 8, 3) := by decide +kernel
theorem dX7_gossip_96 : decode cX7_gossip 96 = .ok (.lload 5, 2) := by decide +kernel
theorem dX7_gossip_98 : decode cX7_gossip 98 = .ok (.goto 5, 3) := by decide +kernel
theorem dX7_gossip_101 : decode cX7_gossip 101 = .ok (.lload 7, 2) := by decide +kernel
theorem dX7_gossip_103 : decode cX7_gossip 103 = .ok (.lreturn, 1) := by decide +kernel
theorem dX7_ages_0 : decode cX7_ages 0 = .ok (.iload_n 2, 1) := by decide +kernel
theorem dX7_ages_1 : decode cX7_ages 1 = .ok (.iconst 0, 1) := by decide +kernel
theorem dX7_ages_2 : decode cX7_ages 2 = .ok (.bipush 8, 2) := by decide +kernel
theorem dX7_ages_4 : decode cX7_ages 4 = .ok (.invokestatic 72, 3) := by decide +kernel
theorem dX7_ages_7 : decode cX7_ages 7 = .ok (.ifCond .eq 12, 3) := by decide +kernel
theorem dX7_ages_10 : decode cX7_ages 10 = .ok (.iload_n 3, 1) := by decide +kernel
theorem dX7_ages_11 : decode cX7_ages 11 = .ok (.iconst 0, 1) := by decide +kernel
theorem dX7_ages_12 : decode cX7_ages 12 = .ok (.iconst 1, 1) := by decide +kernel
theorem dX7_ages_13 : decode cX7_ages 13 = .ok (.invokestatic 72, 3) := by decide +kernel
theorem dX7_ages_16 : decode cX7_ages 16 = .ok (.ifCond .ne 6, 3) := by decide +kernel
theorem dX7_ages_19 : decode cX7_ages 19 = .ok (.bipush (-2), 2) := by decide +kernel
theorem dX7_ages_21 : decode cX7_ages 21 = .ok (.ireturn, 1) := by decide +kernel
theorem dX7_ages_22 : decode cX7_ages 22 = .ok (.aload_n 0, 1) := by decide +kernel
theorem dX7_ages_23 : decode cX7_ages 23 = .ok (.iload_n 1, 1) := by decide +kernel
theorem dX7_ages_24 : decode cX7_ages 24 = .ok (.iload_n 2, 1) := by decide +kernel
theorem dX7_ages_25 : decode cX7_ages 25 = .ok (.invokevirtual 250, 3) := by decide +kernel
theorem dX7_ages_28 : decode cX7_ages 28 = .ok (.aload_n 0, 1) := by decide +kernel
theorem dX7_ages_29 : decode cX7_ages 29 = .ok (.getfield 47, 3) := by decide +kernel
theorem dX7_ages_32 : decode cX7_ages 32 = .ok (.aload_n 0, 1) := by decide +kernel
theorem dX7_ages_33 : decode cX7_ages 33 = .ok (.getfield 20, 3) := by decide +kernel
theorem dX7_ages_36 : decode cX7_ages 36 = .ok (.aload_n 0, 1) := by decide +kernel
theorem dX7_ages_37 : decode cX7_ages 37 = .ok (.getfield 34, 3) := by decide +kernel
theorem dX7_ages_40 : decode cX7_ages 40 = .ok (.aload_n 0, 1) := by decide +kernel
theorem dX7_ages_41 : decode cX7_ages 41 = .ok (.getfield 34, 3) := by decide +kernel
theorem dX7_ages_44 : decode cX7_ages 44 = .ok (.invokevirtual 134, 3) := by decide +kernel
theorem dX7_ages_47 : decode cX7_ages 47 = .ok (.bipush 19, 2) := by decide +kernel
theorem dX7_ages_49 : decode cX7_ages 49 = .ok (.invokevirtual 253, 3) := by decide +kernel
theorem dX7_ages_52 : decode cX7_ages 52 = .ok (.iload_n 3, 1) := by decide +kernel
theorem dX7_ages_53 : decode cX7_ages 53 = .ok (.ifCond .ne 14, 3) := by decide +kernel
theorem dX7_ages_56 : decode cX7_ages 56 = .ok (.aload_n 0, 1) := by decide +kernel
theorem dX7_ages_57 : decode cX7_ages 57 = .ok (.getfield 47, 3) := by decide +kernel
theorem dX7_ages_60 : decode cX7_ages 60 = .ok (.iconst 4, 1) := by decide +kernel
theorem dX7_ages_61 : decode cX7_ages 61 = .ok (.invokevirtual 179, 3) := by decide +kernel
theorem dX7_ages_64 : decode cX7_ages 64 = .ok (.goto 13, 3) := by decide +kernel
theorem dX7_ages_67 : decode cX7_ages 67 = .ok (.aload_n 0, 1) := by decide +kernel
theorem dX7_ages_68 : decode cX7_ages 68 = .ok (.getfield 47, 3) := by decide +kernel
theorem dX7_ages_71 : decode cX7_ages 71 = .ok (.invokevirtual 182, 3) := by decide +kernel
theorem dX7_ages_74 : decode cX7_ages 74 = .ok (.invokestatic 219, 3) := by decide +kernel
theorem dX7_ages_77 : decode cX7_ages 77 = .ok (.ireturn, 1) := by decide +kernel
theorem dX7_sheet_0 : decode cX7_sheet 0 = .ok (.iload_n 1, 1) := by decide +kernel
theorem dX7_sheet_1 : decode cX7_sheet 1 = .ok (.invokestatic 116, 3) := by decide +kernel
theorem dX7_sheet_4 : decode cX7_sheet 4 = .ok (.ifCond .eq 16, 3) := by decide +kernel
theorem dX7_sheet_7 : decode cX7_sheet 7 = .ok (.iload_n 2, 1) := by decide +kernel
theorem dX7_sheet_8 : decode cX7_sheet 8 = .ok (.invokestatic 257, 3) := by decide +kernel
theorem dX7_sheet_11 : decode cX7_sheet 11 = .ok (.ifCond .eq 9, 3) := by decide +kernel
theorem dX7_sheet_14 : decode cX7_sheet 14 = .ok (.iload_n 3, 1) := by decide +kernel
theorem dX7_sheet_15 : decode cX7_sheet 15 = .ok (.bipush 60, 2) := by decide +kernel
theorem dX7_sheet_17 : decode cX7_sheet 17 = .ok (.if_icmp .le 6, 3) := by decide +kernel
theorem dX7_sheet_20 : decode cX7_sheet 20 = .ok (.bipush (-2), 2) := by decide +kernel
theorem dX7_sheet_22 : decode cX7_sheet 22 = .ok (.ireturn, 1) := by decide +kernel
theorem dX7_sheet_23 : decode cX7_sheet 23 = .ok (.iload_n 3, 1) := by decide +kernel
theorem dX7_sheet_24 : decode cX7_sheet 24 = .ok (.ifCond .ge 9, 3) := by decide +kernel
theorem dX7_sheet_27 : decode cX7_sheet 27 = .ok (.aload_n 0, 1) := by decide +kernel
theorem dX7_sheet_28 : decode cX7_sheet 28 = .ok (.iconst 5, 1) := by decide +kernel
theorem dX7_sheet_29 : decode cX7_sheet 29 = .ok (.invokevirtual 123, 3) := by decide +kernel
theorem dX7_sheet_32 : decode cX7_sheet 32 = .ok (.ireturn, 1) := by decide +kernel
theorem dX7_sheet_33 : decode cX7_sheet 33 = .ok (.aload_n 0, 1) := by decide +kernel
theorem dX7_sheet_34 : decode cX7_sheet 34 = .ok (.getfield 67, 3) := by decide +kernel
theorem dX7_sheet_37 : decode cX7_sheet 37 = .ok (.iload_n 1, 1) := by decide +kernel
theorem dX7_sheet_38 : decode cX7_sheet 38 = .ok (.aaload, 1) := by decide +kernel
theorem dX7_sheet_39 : decode cX7_sheet 39 = .ok (.iload_n 2, 1) := by decide +kernel
theorem dX7_sheet_40 : decode cX7_sheet 40 = .ok (.iload_n 3, 1) := by decide +kernel
theorem dX7_sheet_41 : decode cX7_sheet 41 = .ok (.invokevirtual 260, 3) := by decide +kernel
theorem dX7_sheet_44 : decode cX7_sheet 44 = .ok (.iload_n 3, 1) := by decide +kernel
theorem dX7_sheet_45 : decode cX7_sheet 45 = .ok (.ireturn, 1) := by decide +kernel
theorem dX7_lose_0 : decode cX7_lose 0 = .ok (.iload_n 1, 1) := by decide +kernel
theorem dX7_lose_1 : decode cX7_lose 1 = .ok (.invokestatic 116, 3) := by decide +kernel
theorem dX7_lose_4 : decode cX7_lose 4 = .ok (.ifCond .ne 6, 3) := by decide +kernel
theorem dX7_lose_7 : decode cX7_lose 7 = .ok (.bipush (-2), 2) := by decide +kernel
theorem dX7_lose_9 : decode cX7_lose 9 = .ok (.ireturn, 1) := by decide +kernel
theorem dX7_lose_10 : decode cX7_lose 10 = .ok (.aload_n 0, 1) := by decide +kernel
theorem dX7_lose_11 : decode cX7_lose 11 = .ok (.getfield 67, 3) := by decide +kernel
theorem dX7_lose_14 : decode cX7_lose 14 = .ok (.iload_n 1, 1) := by decide +kernel
theorem dX7_lose_15 : decode cX7_lose 15 = .ok (.aaload, 1) := by decide +kernel
theorem dX7_lose_16 : decode cX7_lose 16 = .ok (.getfield 119, 3) := by decide +kernel
theorem dX7_lose_19 : decode cX7_lose 19 = .ok (.ifCond .eq 9, 3) := by decide +kernel
theorem dX7_lose_22 : decode cX7_lose 22 = .ok (.aload_n 0, 1) := by decide +kernel
theorem dX7_lose_23 : decode cX7_lose 23 = .ok (.iconst 1, 1) := by decide +kernel
theorem dX7_lose_24 : decode cX7_lose 24 = .ok (.invokevirtual 123, 3) := by decide +kernel
theorem dX7_lose_27 : decode cX7_lose 27 = .ok (.ireturn, 1) := by decide +kernel
theorem dX7_lose_28 : decode cX7_lose 28 = .ok (.aload_n 0, 1) := by decide +kernel
theorem dX7_lose_29 : decode cX7_lose 29 = .ok (.getfield 67, 3) := by decide +kernel
theorem dX7_lose_32 : decode cX7_lose 32 = .ok (.iload_n 1, 1) := by decide +kernel
theorem dX7_lose_33 : decode cX7_lose 33 = .ok (.aaload, 1) := by decide +kernel
theorem dX7_lose_34 : decode cX7_lose 34 = .ok (.iconst 1, 1) := by decide +kernel
theorem dX7_lose_35 : decode cX7_lose 35 = .ok (.putfield 119, 3) := by decide +kernel
theorem dX7_lose_38 : decode cX7_lose 38 = .ok (.aload_n 0, 1) := by decide +kernel
theorem dX7_lose_39 : decode cX7_lose 39 = .ok (.getfield 67, 3) := by decide +kernel
theorem dX7_lose_42 : decode cX7_lose 42 = .ok (.iload_n 1, 1) := by decide +kernel
theorem dX7_lose_43 : decode cX7_lose 43 = .ok (.aaload, 1) := by decide +kernel
theorem dX7_lose_44 : decode cX7_lose 44 = .ok (.getfield 127, 3) := by decide +kernel
theorem dX7_lose_47 : decode cX7_lose 47 = .ok (.ireturn, 1) := by decide +kernel
theorem dX7_put_0 : decode cX7_put 0 = .ok (.iload_n 1, 1) := by decide +kernel
theorem dX7_put_1 : decode cX7_put 1 = .ok (.invokestatic 116, 3) := by decide +kernel
theorem dX7_put_4 : decode cX7_put 4 = .ok (.ifCond .eq 10, 3) := by decide +kernel
theorem dX7_put_7 : decode cX7_put 7 = .ok (.iload_n 2, 1) := by decide +kernel
theorem dX7_put_8 : decode cX7_put 8 = .ok (.invokestatic 257, 3) := by decide +kernel
theorem dX7_put_11 : decode cX7_put 11 = .ok (.ifCond .ne 6, 3) := by decide +kernel
theorem dX7_put_14 : decode cX7_put 14 = .ok (.bipush (-2), 2) := by decide +kernel
theorem dX7_put_16 : decode cX7_put 16 = .ok (.ireturn, 1) := by decide +kernel
theorem dX7_put_17 : decode cX7_put 17 = .ok (.aload_n 0, 1) := by decide +kernel
theorem dX7_put_18 : decode cX7_put 18 = .ok (.getfield 67, 3) := by decide +kernel
theorem dX7_put_21 : decode cX7_put 21 = .ok (.iload_n 1, 1) := by decide +kernel
theorem dX7_put_22 : decode cX7_put 22 = .ok (.aaload, 1) := by decide +kernel
theorem dX7_put_23 : decode cX7_put 23 = .ok (.iload_n 2, 1) := by decide +kernel
theorem dX7_put_24 : decode cX7_put 24 = .ok (.iload_n 3, 1) := by decide +kernel
theorem dX7_put_25 : decode cX7_put 25 = .ok (.invokevirtual 263, 3) := by decide +kernel
theorem dX7_put_28 : decode cX7_put 28 = .ok (.istore 5, 2) := by decide +kernel
theorem dX7_put_30 : decode cX7_put 30 = .ok (.iload 5, 2) := by decide +kernel
theorem dX7_put_32 : decode cX7_put 32 = .ok (.ifCond .eq 10, 3) := by decide +kernel
theorem dX7_put_35 : decode cX7_put 35 = .ok (.aload_n 0, 1) := by decide +kernel
theorem dX7_put_36 : decode cX7_put 36 = .ok (.iload 5, 2) := by decide +kernel
theorem dX7_put_38 : decode cX7_put 38 = .ok (.invokevirtual 123, 3) := by decide +kernel
theorem dX7_put_41 : decode cX7_put 41 = .ok (.ireturn, 1) := by decide +kernel
theorem dX7_put_42 : decode cX7_put 42 = .ok (.aload_n 0, 1) := by decide +kernel
theorem dX7_put_43 : decode cX7_put 43 = .ok (.getfield 67, 3) := by decide +kernel
theorem dX7_put_46 : decode cX7_put 46 = .ok (.iload_n 1, 1) := by decide +kernel
theorem dX7_put_47 : decode cX7_put 47 = .ok (.aaload, 1) := by decide +kernel
theorem dX7_put_48 : decode cX7_put 48 = .ok (.getfield 128, 3) := by decide +kernel
theorem dX7_put_51 : decode cX7_put 51 = .ok (.iload_n 3, 1) := by decide +kernel
theorem dX7_put_52 : decode cX7_put 52 = .ok (.iload_n 2, 1) := by decide +kernel
theorem dX7_put_53 : decode cX7_put 53 = .ok (.iload 4, 2) := by decide +kernel
theorem dX7_put_55 : decode cX7_put 55 = .ok (.invokestatic 266, 3) := by decide +kernel
theorem dX7_put_58 : decode cX7_put 58 = .ok (.iastore, 1) := by decide +kernel
theorem dX7_put_59 : decode cX7_put 59 = .ok (.iconst 1, 1) := by decide +kernel
theorem dX7_put_60 : decode cX7_put 60 = .ok (.ireturn, 1) := by decide +kernel
theorem dX7_get_0 : decode cX7_get 0 = .ok (.iload_n 1, 1) := by decide +kernel
theorem dX7_get_1 : decode cX7_get 1 = .ok (.invokestatic 116, 3) := by decide +kernel
theorem dX7_get_4 : decode cX7_get 4 = .ok (.ifCond .eq 10, 3) := by decide +kernel
theorem dX7_get_7 : decode cX7_get 7 = .ok (.iload_n 2, 1) := by decide +kernel
theorem dX7_get_8 : decode cX7_get 8 = .ok (.invokestatic 257, 3) := by decide +kernel
theorem dX7_get_11 : decode cX7_get 11 = .ok (.ifCond .ne 6, 3) := by decide +kernel
theorem dX7_get_14 : decode cX7_get 14 = .ok (.ldc 156, 2) := by decide +kernel
theorem dX7_get_16 : decode cX7_get 16 = .ok (.ireturn, 1) := by decide +kernel
theorem dX7_get_17 : decode cX7_get 17 = .ok (.aload_n 0, 1) := by decide +kernel
theorem dX7_get_18 : decode cX7_get 18 = .ok (.getfield 67, 3) := by decide +kernel
theorem dX7_get_21 : decode cX7_get 21 = .ok (.iload_n 1, 1) := by decide +kernel
theorem dX7_get_22 : decode cX7_get 22 = .ok (.aaload, 1) := by decide +kernel
theorem dX7_get_23 : decode cX7_get 23 = .ok (.iload_n 2, 1) := by decide +kernel
theorem dX7_get_24 : decode cX7_get 24 = .ok (.iload_n 3, 1) := by decide +kernel
theorem dX7_get_25 : decode cX7_get 25 = .ok (.invokevirtual 263, 3) := by decide +kernel
theorem dX7_get_28 : decode cX7_get 28 = .ok (.istore 4, 2) := by decide +kernel
theorem dX7_get_30 : decode cX7_get 30 = .ok (.iload 4, 2) := by decide +kernel
theorem dX7_get_32 : decode cX7_get 32 = .ok (.ifCond .eq 13, 3) := by decide +kernel
theorem dX7_get_35 : decode cX7_get 35 = .ok (.aload_n 0, 1) := by decide +kernel
theorem dX7_get_36 : decode cX7_get 36 = .ok (.iload 4, 2) := by decide +kernel
theorem dX7_get_38 : decode cX7_get 38 = .ok (.invokevirtual 123, 3) := by decide +kernel
theorem dX7_get_41 : decode cX7_get 41 = .ok (.pop, 1) := by decide +kernel
theorem dX7_get_42 : decode cX7_get 42 = .ok (.ldc 156, 2) := by decide +kernel
theorem dX7_get_44 : decode cX7_get 44 = .ok (.ireturn, 1) := by decide +kernel
theorem dX7_get_45 : decode cX7_get 45 = .ok (.aload_n 0, 1) := by decide +kernel
theorem dX7_get_46 : decode cX7_get 46 = .ok (.getfield 67, 3) := by decide +kernel
theorem dX7_get_49 : decode cX7_get 49 = .ok (.iload_n 1, 1) := by decide +kernel
theorem dX7_get_50 : decode cX7_get 50 = .ok (.aaload, 1) := by decide +kernel
theorem dX7_get_51 : decode cX7_get 51 = .ok (.getfield 128, 3) := by decide +kernel
theorem dX7_get_54 : decode cX7_get 54 = .ok (.iload_n 3, 1) := by decide +kernel
theorem dX7_get_55 : decode cX7_get 55 = .ok (.iaload, 1) := by decide +kernel
theorem dX7_get_56 : decode cX7_get 56 = .ok (.ireturn, 1) := by decide +kernel
theorem dX7_copy_0 : decode cX7_copy 0 = .ok (.iload_n 1, 1) := by decide +kernel
theorem dX7_copy_1 : decode cX7_copy 1 = .ok (.invokestatic 116, 3) := by decide +kernel
theorem dX7_copy_4 : decode cX7_copy 4 = .ok (.ifCond .eq 10, 3) := by decide +kernel
theorem dX7_copy_7 : decode cX7_copy 7 = .ok (.iload_n 3, 1) := by decide +kernel
theorem dX7_copy_8 : decode cX7_copy 8 = .ok (.invokestatic 116, 3) := by decide +kernel
theorem dX7_copy_11 : decode cX7_copy 11 = .ok (.ifCond .ne 6, 3) := by decide +kernel
theorem dX7_copy_14 : decode cX7_copy 14 = .ok (.bipush (-2), 2) := by decide +kernel
theorem dX7_copy_16 : decode cX7_copy 16 = .ok (.ireturn, 1) := by decide +kernel
theorem dX7_copy_17 : decode cX7_copy 17 = .ok (.aload_n 0, 1) := by decide +kernel
theorem dX7_copy_18 : decode cX7_copy 18 = .ok (.getfield 67, 3) := by decide +kernel
theorem dX7_copy_21 : decode cX7_copy 21 = .ok (.iload_n 1, 1) := by decide +kernel
theorem dX7_copy_22 : decode cX7_copy 22 = .ok (.aaload, 1) := by decide +kernel
theorem dX7_copy_23 : decode cX7_copy 23 = .ok (.astore 6, 2) := by decide +kernel
theorem dX7_copy_25 : decode cX7_copy 25 = .ok (.aload_n 0, 1) := by decide +kernel
theorem dX7_copy_26 : decode cX7_copy 26 = .ok (.getfield 67, 3) := by decide +kernel
theorem dX7_copy_29 : decode cX7_copy 29 = .ok (.iload_n 3, 1) := by decide +kernel
theorem dX7_copy_30 : decode cX7_copy 30 = .ok (.aaload, 1) := by decide +kernel
theorem dX7_copy_31 : decode cX7_copy 31 = .ok (.astore 7, 2) := by decide +kernel
theorem dX7_copy_33 : decode cX7_copy 33 = .ok (.aload 6, 2) := by decide +kernel
theorem dX7_copy_35 : decode cX7_copy 35 = .ok (.getfield 119, 3) := by decide +kernel
theorem dX7_copy_38 : decode cX7_copy 38 = .ok (.ifCond .ne 11, 3) := by decide +kernel
theorem dX7_copy_41 : decode cX7_copy 41 = .ok (.aload 7, 2) := by decide +kernel
theorem dX7_copy_43 : decode cX7_copy 43 = .ok (.getfield 119, 3) := by decide +kernel
theorem dX7_copy_46 : decode cX7_copy 46 = .ok (.ifCond .eq 9, 3) := by decide +kernel
theorem dX7_copy_49 : decode cX7_copy 49 = .ok (.aload_n 0, 1) := by decide +kernel
theorem dX7_copy_50 : decode cX7_copy 50 = .ok (.iconst 1, 1) := by decide +kernel
theorem dX7_copy_51 : decode cX7_copy 51 = .ok (.invokevirtual 123, 3) := by decide +kernel
theorem dX7_copy_54 : decode cX7_copy 54 = .ok (.ireturn, 1) := by decide +kernel
theorem dX7_copy_55 : decode cX7_copy 55 = .ok (.aload 6, 2) := by decide +kernel
theorem dX7_copy_57 : decode cX7_copy 57 = .ok (.getfield 269, 3) := by decide +kernel
theorem dX7_copy_60 : decode cX7_copy 60 = .ok (.aload 7, 2) := by decide +kernel
theorem dX7_copy_62 : decode cX7_copy 62 = .ok (.getfield 269, 3) := by decide +kernel
theorem dX7_copy_65 : decode cX7_copy 65 = .ok (.if_icmp .eq 9, 3) := by decide +kernel
theorem dX7_copy_68 : decode cX7_copy 68 = .ok (.aload_n 0, 1) := by decide +kernel
theorem dX7_copy_69 : decode cX7_copy 69 = .ok (.iconst 4, 1) := by decide +kernel
theorem dX7_copy_70 : decode cX7_copy 70 = .ok (.invokevirtual 123, 3) := by decide +kernel
theorem dX7_copy_73 : decode cX7_copy 73 = .ok (.ireturn, 1) := by decide +kernel
theorem dX7_copy_74 : decode cX7_copy 74 = .ok (.aload 6, 2) := by decide +kernel
theorem dX7_copy_76 : decode cX7_copy 76 = .ok (.iload_n 2, 1) := by decide +kernel
theorem dX7_copy_77 : decode cX7_copy 77 = .ok (.iload 5, 2) := by decide +kernel
theorem dX7_copy_79 : decode cX7_copy 79 = .ok (.invokevirtual 272, 3) := by decide +kernel
theorem dX7_copy_82 : decode cX7_copy 82 = .ok (.ifCond .eq 15, 3) := by decide +kernel
theorem dX7_copy_85 : decode cX7_copy 85 = .ok (.aload 7, 2) := by decide +kernel
theorem dX7_copy_87 : decode cX7_copy 87 = .ok (.iload 4, 2) := by decide +kernel
theorem dX7_copy_89 : decode cX7_copy 89 = .ok (.iload 5, 2) := by decide +kernel
theorem dX7_copy_91 : decode cX7_copy 91 = .ok (.invokevirtual 272, 3) := by decide +kernel
theorem dX7_copy_94 : decode cX7_copy 94 = .ok (.ifCond .ne 9, 3) := by decide +kernel
theorem dX7_copy_97 : decode cX7_copy 97 = .ok (.aload_n 0, 1) := by decide +kernel
theorem dX7_copy_98 : decode cX7_copy 98 = .ok (.iconst 2, 1) := by decide +kernel
theorem dX7_copy_99 : decode cX7_copy 99 = .ok (.invokevirtual 123, 3) := by decide +kernel
theorem dX7_copy_102 : decode cX7_copy 102 = .ok (.ireturn, 1) := by decide +kernel
theorem dX7_copy_103 : decode cX7_copy 103 = .ok (.aload 6, 2) := by decide +kernel
theorem dX7_copy_105 : decode cX7_copy 105 = .ok (.getfield 128, 3) := by decide +kernel
theorem dX7_copy_108 : decode cX7_copy 108 = .ok (.iload_n 2, 1) := by decide +kernel
theorem dX7_copy_109 : decode cX7_copy 109 = .ok (.aload 7, 2) := by decide +kernel
theorem dX7_copy_111 : decode cX7_copy 111 = .ok (.getfield 128, 3) := by decide +kernel
theorem dX7_copy_114 : decode cX7_copy 114 = .ok (.iload 4, 2) := by decide +kernel
theorem dX7_copy_116 : decode cX7_copy 116 = .ok (.iload 5, 2) := by decide +kernel
theorem dX7_copy_118 : decode cX7_copy 118 = .ok (.invokestatic 276, 3) := by decide +kernel
theorem dX7_copy_121 : decode cX7_copy 121 = .ok (.iconst 1, 1) := by decide +kernel
theorem dX7_copy_122 : decode cX7_copy 122 = .ok (.ireturn, 1) := by decide +kernel
theorem dX7_write_0 : decode cX7_write 0 = .ok (.aload_n 0, 1) := by decide +kernel
theorem dX7_write_1 : decode cX7_write 1 = .ok (.getfield 20, 3) := by decide +kernel
theorem dX7_write_4 : decode cX7_write 4 = .ok (.iload_n 1, 1) := by decide +kernel
theorem dX7_write_5 : decode cX7_write 5 = .ok (.invokevirtual 82, 3) := by decide +kernel
theorem dX7_write_8 : decode cX7_write 8 = .ok (.ifCond .eq 10, 3) := by decide +kernel
theorem dX7_write_11 : decode cX7_write 11 = .ok (.iload_n 2, 1) := by decide +kernel
theorem dX7_write_12 : decode cX7_write 12 = .ok (.invokestatic 116, 3) := by decide +kernel
theorem dX7_write_15 : decode cX7_write 15 = .ok (.ifCond .ne 6, 3) := by decide +kernel
theorem dX7_write_18 : decode cX7_write 18 = .ok (.bipush (-2), 2) := by decide +kernel
theorem dX7_write_20 : decode cX7_write 20 = .ok (.ireturn, 1) := by decide +kernel
theorem dX7_write_21 : decode cX7_write 21 = .ok (.aload_n 0, 1) := by decide +kernel
theorem dX7_write_22 : decode cX7_write 22 = .ok (.getfield 67, 3) := by decide +kernel
theorem dX7_write_25 : decode cX7_write 25 = .ok (.iload_n 2, 1) := by decide +kernel
theorem dX7_write_26 : decode cX7_write 26 = .ok (.aaload, 1) := by decide +kernel
theorem dX7_write_27 : decode cX7_write 27 = .ok (.astore_n 3, 1) := by decide +kernel
theorem dX7_write_28 : decode cX7_write 28 = .ok (.aload_n 3, 1) := by decide +kernel
theorem dX7_write_29 : decode cX7_write 29 = .ok (.getfield 119, 3) := by decide +kernel
theorem dX7_write_32 : decode cX7_write 32 = .ok (.ifCond .eq 9, 3) := by decide +kernel
theorem dX7_write_35 : decode cX7_write 35 = .ok (.aload_n 0, 1) := by decide +kernel
theorem dX7_write_36 : decode cX7_write 36 = .ok (.iconst 1, 1) := by decide +kernel
theorem dX7_write_37 : decode cX7_write 37 = .ok (.invokevirtual 123, 3) := by decide +kernel
theorem dX7_write_40 : decode cX7_write 40 = .ok (.ireturn, 1) := by decide +kernel
theorem dX7_write_41 : decode cX7_write 41 = .ok (.aload_n 3, 1) := by decide +kernel
theorem dX7_write_42 : decode cX7_write 42 = .ok (.getfield 127, 3) := by decide +kernel
theorem dX7_write_45 : decode cX7_write 45 = .ok (.bipush 20, 2) := by decide +kernel
theorem dX7_write_47 : decode cX7_write 47 = .ok (.invokestatic 282, 3) := by decide +kernel
theorem dX7_write_50 : decode cX7_write 50 = .ok (.istore 4, 2) := by decide +kernel
theorem dX7_write_52 : decode cX7_write 52 = .ok (.iconst 0, 1) := by decide +kernel
theorem dX7_write_53 : decode cX7_write 53 = .ok (.istore 5, 2) := by decide +kernel
theorem dX7_write_55 : decode cX7_write 55 = .ok (.iload 5, 2) := by decide +kernel
theorem dX7_write_57 : decode cX7_write 57 = .ok (.iload 4, 2) := by decide +kernel
theorem dX7_write_59 : decode cX7_write 59 = .ok (.if_icmp .ge 48, 3) := by decide +kernel
theorem dX7_write_62 : decode cX7_write 62 = .ok (.aload_n 0, 1) := by decide +kernel
theorem dX7_write_63 : decode cX7_write 63 = .ok (.getfield 54, 3) := by decide +kernel
theorem dX7_write_66 : decode cX7_write 66 = .ok (.aload_n 0, 1) := by decide +kernel
theorem dX7_write_67 : decode cX7_write 67 = .ok (.getfield 20, 3) := by decide +kernel
theorem dX7_write_70 : decode cX7_write 70 = .ok (.aload_n 0, 1) := by decide +kernel
theorem dX7_write_71 : decode cX7_write 71 = .ok (.getfield 30, 3) := by decide +kernel
theorem dX7_write_74 : decode cX7_write 74 = .ok (.aload_n 0, 1) := by decide +kernel
theorem dX7_write_75 : decode cX7_write 75 = .ok (.getfield 30, 3) := by decide +kernel
theorem dX7_write_78 : decode cX7_write 78 = .ok (.invokevirtual 134, 3) := by decide +kernel
theorem dX7_write_81 : decode cX7_write 81 = .ok (.iload_n 1, 1) := by decide +kernel
theorem dX7_write_82 : decode cX7_write 82 = .ok (.iload 5, 2) := by decide +kernel
theorem dX7_write_84 : decode cX7_write 84 = .ok (.invokevirtual 138, 3) := by decide +kernel
theorem dX7_write_87 : decode cX7_write 87 = .ok (.aload_n 3, 1) := by decide +kernel
theorem dX7_write_88 : decode cX7_write 88 = .ok (.getfield 128, 3) := by decide +kernel
theorem dX7_write_91 : decode cX7_write 91 = .ok (.iload 5, 2) := by decide +kernel
theorem dX7_write_93 : decode cX7_write 93 = .ok (.aload_n 0, 1) := by decide +kernel
theorem dX7_write_94 : decode cX7_write 94 = .ok (.getfield 54, 3) := by decide +kernel
theorem dX7_write_97 : decode cX7_write 97 = .ok (.getfield 147, 3) := by decide +kernel
theorem dX7_write_100 : decode cX7_write 100 = .ok (.iastore, 1) := by decide +kernel
theorem dX7_write_101 : decode cX7_write 101 = .ok (.iinc 5 1, 3) := by decide +kernel
theorem dX7_write_104 : decode cX7_write 104 = .ok (.goto (-49), 3) := by decide +kernel
theorem dX7_write_107 : decode cX7_write 107 = .ok (.iload 4, 2) := by decide +kernel
theorem dX7_write_109 : decode cX7_write 109 = .ok (.ireturn, 1) := by decide +kernel
theorem dX7_count_0 : decode cX7_count 0 = .ok (.iload_n 1, 1) := by decide +kernel
theorem dX7_count_1 : decode cX7_count 1 = .ok (.tableswitch 125 0 8 #[51, 59, 64, 72, 80, 88, 98, 112, 120], 51) := by decide +kernel
theorem dX7_count_52 : decode cX7_count 52 = .ok (.aload_n 0, 1) := by decide +kernel
theorem dX7_count_53 : decode cX7_count 53 = .ok (.getfield 20, 3) := by decide +kernel
theorem dX7_count_56 : decode cX7_count 56 = .ok (.getfield 212, 3) := by decide +kernel
theorem dX7_count_59 : decode cX7_count 59 = .ok (.ireturn, 1) := by decide +kernel
theorem dX7_count_60 : decode cX7_count 60 = .ok (.aload_n 0, 1) := by decide +kernel
theorem dX7_count_61 : decode cX7_count 61 = .ok (.getfield 76, 3) := by decide +kernel
theorem dX7_count_64 : decode cX7_count 64 = .ok (.ireturn, 1) := by decide +kernel
theorem dX7_count_65 : decode cX7_count 65 = .ok (.aload_n 0, 1) := by decide +kernel
theorem dX7_count_66 : decode cX7_count 66 = .ok (.getfield 30, 3) := by decide +kernel
theorem dX7_count_69 : decode cX7_count 69 = .ok (.getfield 110, 3) := by decide +kernel
theorem dX7_count_72 : decode cX7_count 72 = .ok (.ireturn, 1) := by decide +kernel
theorem dX7_count_73 : decode cX7_count 73 = .ok (.aload_n 0, 1) := by decide +kernel
theorem dX7_count_74 : decode cX7_count 74 = .ok (.bipush 19, 2) := by decide +kernel
theorem dX7_count_76 : decode cX7_count 76 = .ok (.iconst 0, 1) := by decide +kernel
theorem dX7_count_77 : decode cX7_count 77 = .ok (.invokevirtual 287, 3) := by decide +kernel
theorem dX7_count_80 : decode cX7_count 80 = .ok (.ireturn, 1) := by decide +kernel
theorem dX7_count_81 : decode cX7_count 81 = .ok (.aload_n 0, 1) := by decide +kernel
theorem dX7_count_82 : decode cX7_count 82 = .ok (.bipush 19, 2) := by decide +kernel
theorem dX7_count_84 : decode cX7_count 84 = .ok (.iconst 1, 1) := by decide +kernel
theorem dX7_count_85 : decode cX7_count 85 = .ok (.invokevirtual 287, 3) := by decide +kernel
theorem dX7_count_88 : decode cX7_count 88 = .ok (.ireturn, 1) := by decide +kernel
theorem dX7_count_89 : decode cX7_count 89 = .ok (.aload_n 0, 1) := by decide +kernel
theorem dX7_count_90 : decode cX7_count 90 = .ok (.bipush 19, 2) := by decide +kernel
theorem dX7_count_92 : decode cX7_count 92 = .ok (.invokevirtual 290, 3) := by decide +kernel
theorem dX7_count_95 : decode cX7_count 95 = .ok (.invokestatic 219, 3) := by decide +kernel
theorem dX7_count_98 : decode cX7_count 98 = .ok (.ireturn, 1) := by decide +kernel
theorem dX7_count_99 : decode cX7_count 99 = .ok (.aload_n 0, 1) := by decide +kernel
theorem dX7_count_100 : decode cX7_count 100 = .ok (.bipush 19, 2) := by decide +kernel
theorem dX7_count_102 : decode cX7_count 102 = .ok (.invokevirtual 167, 3) := by decide +kernel
theorem dX7_count_105 : decode cX7_count 105 = .ok (.aload_n 0, 1) := by decide +kernel
theorem dX7_count_106 : decode cX7_count 106 = .ok (.getfield 47, 3) := by decide +kernel
theorem dX7_count_109 : decode cX7_count 109 = .ok (.invokevirtual 293, 3) := by decide +kernel
theorem dX7_count_112 : decode cX7_count 112 = .ok (.ireturn, 1) := by decide +kernel
theorem dX7_count_113 : decode cX7_count 113 = .ok (.aload_n 0, 1) := by decide +kernel
theorem dX7_count_114 : decode cX7_count 114 = .ok (.getfield 40, 3) := by decide +kernel
theorem dX7_count_117 : decode cX7_count 117 = .ok (.getfield 231, 3) := by decide +kernel
theorem dX7_count_120 : decode cX7_count 120 = .ok (.ireturn, 1) := by decide +kernel
theorem dX7_count_121 : decode cX7_count 121 = .ok (.aload_n 0, 1) := by decide +kernel
theorem dX7_count_122 : decode cX7_count 122 = .ok (.getfield 295, 3) := by decide +kernel
theorem dX7_count_125 : decode cX7_count 125 = .ok (.ireturn, 1) := by decide +kernel
theorem dX7_count_126 : decode cX7_count 126 = .ok (.bipush (-2), 2) := by decide +kernel
theorem dX7_count_128 : decode cX7_count 128 = .ok (.ireturn, 1) := by decide +kernel
theorem dX7_digest_0 : decode cX7_digest 0 = .ok (.ldc2_w 298, 3) := by decide +kernel
theorem dX7_digest_3 : decode cX7_digest 3 = .ok (.lstore_n 1, 1) := by decide +kernel
theorem dX7_digest_4 : decode cX7_digest 4 = .ok (.iconst 0, 1) := by decide +kernel
theorem dX7_digest_5 : decode cX7_digest 5 = .ok (.istore_n 3, 1) := by decide +kernel
theorem dX7_digest_6 : decode cX7_digest 6 = .ok (.iload_n 3, 1) := by decide +kernel
theorem dX7_digest_7 : decode cX7_digest 7 = .ok (.bipush 7, 2) := by decide +kernel
theorem dX7_digest_9 : decode cX7_digest 9 = .ok (.if_icmp .gt 20, 3) := by decide +kernel
theorem dX7_digest_12 : decode cX7_digest 12 = .ok (.lload_n 1, 1) := by decide +kernel
theorem dX7_digest_13 : decode cX7_digest 13 = .ok (.aload_n 0, 1) := by decide +kernel
theorem dX7_digest_14 : decode cX7_digest 14 = .ok (.iload_n 3, 1) := by decide +kernel
theorem dX7_digest_15 : decode cX7_digest 15 = .ok (.invokevirtual 300, 3) := by decide +kernel
theorem dX7_digest_18 : decode cX7_digest 18 = .ok (.i2l, 1) := by decide +kernel
theorem dX7_digest_19 : decode cX7_digest 19 = .ok (.invokestatic 303, 3) := by decide +kernel
theorem dX7_digest_22 : decode cX7_digest 22 = .ok (.lstore_n 1, 1) := by decide +kernel
theorem dX7_digest_23 : decode cX7_digest 23 = .ok (.iinc 3 1, 3) := by decide +kernel
theorem dX7_digest_26 : decode cX7_digest 26 = .ok (.goto (-20), 3) := by decide +kernel
theorem dX7_digest_29 : decode cX7_digest 29 = .ok (.lload_n 1, 1) := by decide +kernel
theorem dX7_digest_30 : decode cX7_digest 30 = .ok (.aload_n 0, 1) := by decide +kernel
theorem dX7_digest_31 : decode cX7_digest 31 = .ok (.invokevirtual 307, 3) := by decide +kernel
theorem dX7_digest_34 : decode cX7_digest 34 = .ok (.i2l, 1) := by decide +kernel
theorem dX7_digest_35 : decode cX7_digest 35 = .ok (.invokestatic 303, 3) := by decide +kernel
theorem dX7_digest_38 : decode cX7_digest 38 = .ok (.lstore_n 1, 1) := by decide +kernel
theorem dX7_digest_39 : decode cX7_digest 39 = .ok (.iconst 0, 1) := by decide +kernel
theorem dX7_digest_40 : decode cX7_digest 40 = .ok (.istore_n 3, 1) := by decide +kernel
theorem dX7_digest_41 : decode cX7_digest 41 = .ok (.iload_n 3, 1) := by decide +kernel
theorem dX7_digest_42 : decode cX7_digest 42 = .ok (.aload_n 0, 1) := by decide +kernel
theorem dX7_digest_43 : decode cX7_digest 43 = .ok (.getfield 20, 3) := by decide +kernel
theorem dX7_digest_46 : decode cX7_digest 46 = .ok (.getfield 212, 3) := by decide +kernel
theorem dX7_digest_49 : decode cX7_digest 49 = .ok (.if_icmp .ge 16, 3) := by decide +kernel
theorem dX7_digest_52 : decode cX7_digest 52 = .ok (.aload_n 0, 1) := by decide +kernel
theorem dX7_digest_53 : decode cX7_digest 53 = .ok (.lload_n 1, 1) := by decide +kernel
theorem dX7_digest_54 : decode cX7_digest 54 = .ok (.iload_n 3, 1) := by decide +kernel
theorem dX7_digest_55 : decode cX7_digest 55 = .ok (.invokevirtual 310, 3) := by decide +kernel
theorem dX7_digest_58 : decode cX7_digest 58 = .ok (.lstore_n 1, 1) := by decide +kernel
theorem dX7_digest_59 : decode cX7_digest 59 = .ok (.iinc 3 1, 3) := by decide +kernel
theorem dX7_digest_62 : decode cX7_digest 62 = .ok (.goto (-21), 3) := by decide +kernel
theorem dX7_digest_65 : decode cX7_digest 65 = .ok (.aload_n 0, 1) := by decide +kernel
theorem dX7_digest_66 : decode cX7_digest 66 = .ok (.aload_n 0, 1) := by decide +kernel
theorem dX7_digest_67 : decode cX7_digest 67 = .ok (.lload_n 1, 1) := by decide +kernel
theorem dX7_digest_68 : decode cX7_digest 68 = .ok (.invokevirtual 314, 3) := by decide +kernel
theorem dX7_digest_71 : decode cX7_digest 71 = .ok (.invokevirtual 318, 3) := by decide +kernel
theorem dX7_digest_74 : decode cX7_digest 74 = .ok (.lstore_n 1, 1) := by decide +kernel
theorem dX7_digest_75 : decode cX7_digest 75 = .ok (.lload_n 1, 1) := by decide +kernel
theorem dX7_digest_76 : decode cX7_digest 76 = .ok (.aload_n 0, 1) := by decide +kernel
theorem dX7_digest_77 : decode cX7_digest 77 = .ok (.invokevirtual 321, 3) := by decide +kernel
theorem dX7_digest_80 : decode cX7_digest 80 = .ok (.i2l, 1) := by decide +kernel
theorem dX7_digest_81 : decode cX7_digest 81 = .ok (.invokestatic 303, 3) := by decide +kernel
theorem dX7_digest_84 : decode cX7_digest 84 = .ok (.lstore_n 1, 1) := by decide +kernel
theorem dX7_digest_85 : decode cX7_digest 85 = .ok (.iconst 0, 1) := by decide +kernel
theorem dX7_digest_86 : decode cX7_digest 86 = .ok (.istore_n 3, 1) := by decide +kernel
theorem dX7_digest_87 : decode cX7_digest 87 = .ok (.iload_n 3, 1) := by decide +kernel
theorem dX7_digest_88 : decode cX7_digest 88 = .ok (.iconst 2, 1) := by decide +kernel
theorem dX7_digest_89 : decode cX7_digest 89 = .ok (.if_icmp .gt 20, 3) := by decide +kernel
theorem dX7_digest_92 : decode cX7_digest 92 = .ok (.lload_n 1, 1) := by decide +kernel
theorem dX7_digest_93 : decode cX7_digest 93 = .ok (.aload_n 0, 1) := by decide +kernel
theorem dX7_digest_94 : decode cX7_digest 94 = .ok (.iload_n 3, 1) := by decide +kernel
theorem dX7_digest_95 : decode cX7_digest 95 = .ok (.invokevirtual 324, 3) := by decide +kernel
theorem dX7_digest_98 : decode cX7_digest 98 = .ok (.i2l, 1) := by decide +kernel
theorem dX7_digest_99 : decode cX7_digest 99 = .ok (.invokestatic 303, 3) := by decide +kernel
theorem dX7_digest_102 : decode cX7_digest 102 = .ok (.lstore_n 1, 1) := by decide +kernel
theorem dX7_digest_103 : decode cX7_digest 103 = .ok (.iinc 3 1, 3) := by decide +kernel
theorem dX7_digest_106 : decode cX7_digest 106 = .ok (.goto (-19), 3) := by decide +kernel
theorem dX7_digest_109 : decode cX7_digest 109 = .ok (.iconst 0, 1) := by decide +kernel
theorem dX7_digest_110 : decode cX7_digest 110 = .ok (.istore_n 3, 1) := by decide +kernel
theorem dX7_digest_111 : decode cX7_digest 111 = .ok (.iload_n 3, 1) := by decide +kernel
theorem dX7_digest_112 : decode cX7_digest 112 = .ok (.iconst 2, 1) := by decide +kernel
theorem dX7_digest_113 : decode cX7_digest 113 = .ok (.if_icmp .gt 20, 3) := by decide +kernel
theorem dX7_digest_116 : decode cX7_digest 116 = .ok (.lload_n 1, 1) := by decide +kernel
theorem dX7_digest_117 : decode cX7_digest 117 = .ok (.aload_n 0, 1) := by decide +kernel
theorem dX7_digest_118 : decode cX7_digest 118 = .ok (.iload_n 3, 1) := by decide +kernel
theorem dX7_digest_119 : decode cX7_digest 119 = .ok (.invokevirtual 327, 3) := by decide +kernel
theorem dX7_digest_122 : decode cX7_digest 122 = .ok (.i2l, 1) := by decide +kernel
theorem dX7_digest_123 : decode cX7_digest 123 = .ok (.invokestatic 303, 3) := by decide +kernel
theorem dX7_digest_126 : decode cX7_digest 126 = .ok (.lstore_n 1, 1) := by decide +kernel
theorem dX7_digest_127 : decode cX7_digest 127 = .ok (.iinc 3 1, 3) := by decide +kernel
theorem dX7_digest_130 : decode cX7_digest 130 = .ok (.goto (-19), 3) := by decide +kernel
theorem dX7_digest_133 : decode cX7_digest 133 = .ok (.lload_n 1, 1) := by decide +kernel
theorem dX7_digest_134 : decode cX7_digest 134 = .ok (.aload_n 0, 1) := by decide +kernel
theorem dX7_digest_135 : decode cX7_digest 135 = .ok (.iconst (-1), 1) := by decide +kernel
theorem dX7_digest_136 : decode cX7_digest 136 = .ok (.invokevirtual 330, 3) := by decide +kernel
theorem dX7_digest_139 : decode cX7_digest 139 = .ok (.i2l, 1) := by decide +kernel
theorem dX7_digest_140 : decode cX7_digest 140 = .ok (.invokestatic 303, 3) := by decide +kernel
theorem dX7_digest_143 : decode cX7_digest 143 = .ok (.lstore_n 1, 1) := by decide +kernel
theorem dX7_digest_144 : decode cX7_digest 144 = .ok (.lload_n 1, 1) := by decide +kernel
theorem dX7_digest_145 : decode cX7_digest 145 = .ok (.aload_n 0, 1) := by decide +kernel
theorem dX7_digest_146 : decode cX7_digest 146 = .ok (.iconst 0, 1) := by decide +kernel
theorem dX7_digest_147 : decode cX7_digest 147 = .ok (.invokevirtual 330, 3) := by decide +kernel
theorem dX7_digest_150 : decode cX7_digest 150 = .ok (.i2l, 1) := by decide +kernel
theorem dX7_digest_151 : decode cX7_digest 151 = .ok (.invokestatic 303, 3) := by decide +kernel
theorem dX7_digest_154 : decode cX7_digest 154 = .ok (.lstore_n 1, 1) := by decide +kernel
theorem dX7_digest_155 : decode cX7_digest 155 = .ok (.lload_n 1, 1) := by decide +kernel
theorem dX7_digest_156 : decode cX7_digest 156 = .ok (.aload_n 0, 1) := by decide +kernel
theorem dX7_digest_157 : decode cX7_digest 157 = .ok (.invokevirtual 333, 3) := by decide +kernel
theorem dX7_digest_160 : decode cX7_digest 160 = .ok (.i2l, 1) := by decide +kernel
theorem dX7_digest_161 : decode cX7_digest 161 = .ok (.invokestatic 303, 3) := by decide +kernel
theorem dX7_digest_164 : decode cX7_digest 164 = .ok (.lstore_n 1, 1) := by decide +kernel
theorem dX7_digest_165 : decode cX7_digest 165 = .ok (.lload_n 1, 1) := by decide +kernel
theorem dX7_digest_166 : decode cX7_digest 166 = .ok (.aload_n 0, 1) := by decide +kernel
theorem dX7_digest_167 : decode cX7_digest 167 = .ok (.iconst 5, 1) := by decide +kernel
theorem dX7_digest_168 : decode cX7_digest 168 = .ok (.bipush 14, 2) := by decide +kernel
theorem dX7_digest_170 : decode cX7_digest 170 = .ok (.iconst 0, 1) := by decide +kernel
theorem dX7_digest_171 : decode cX7_digest 171 = .ok (.invokevirtual 336, 3) := by decide +kernel
theorem dX7_digest_174 : decode cX7_digest 174 = .ok (.invokestatic 303, 3) := by decide +kernel
theorem dX7_digest_177 : decode cX7_digest 177 = .ok (.lstore_n 1, 1) := by decide +kernel
theorem dX7_digest_178 : decode cX7_digest 178 = .ok (.lload_n 1, 1) := by decide +kernel
theorem dX7_digest_179 : decode cX7_digest 179 = .ok (.aload_n 0, 1) := by decide +kernel
theorem dX7_digest_180 : decode cX7_digest 180 = .ok (.iconst 5, 1) := by decide +kernel
theorem dX7_digest_181 : decode cX7_digest 181 = .ok (.bipush 14, 2) := by decide +kernel
theorem dX7_digest_183 : decode cX7_digest 183 = .ok (.iconst 1, 1) := by decide +kernel
theorem dX7_digest_184 : decode cX7_digest 184 = .ok (.invokevirtual 336, 3) := by decide +kernel
theorem dX7_digest_187 : decode cX7_digest 187 = .ok (.invokestatic 303, 3) := by decide +kernel
theorem dX7_digest_190 : decode cX7_digest 190 = .ok (.lstore_n 1, 1) := by decide +kernel
theorem dX7_digest_191 : decode cX7_digest 191 = .ok (.lload_n 1, 1) := by decide +kernel
theorem dX7_digest_192 : decode cX7_digest 192 = .ok (.aload_n 0, 1) := by decide +kernel
theorem dX7_digest_193 : decode cX7_digest 193 = .ok (.bipush 7, 2) := by decide +kernel
theorem dX7_digest_195 : decode cX7_digest 195 = .ok (.bipush 6, 2) := by decide +kernel
theorem dX7_digest_197 : decode cX7_digest 197 = .ok (.iconst 0, 1) := by decide +kernel
theorem dX7_digest_198 : decode cX7_digest 198 = .ok (.invokevirtual 340, 3) := by decide +kernel
theorem dX7_digest_201 : decode cX7_digest 201 = .ok (.i2l, 1) := by decide +kernel
theorem dX7_digest_202 : decode cX7_digest 202 = .ok (.invokestatic 303, 3) := by decide +kernel
theorem dX7_digest_205 : decode cX7_digest 205 = .ok (.lstore_n 1, 1) := by decide +kernel
theorem dX7_digest_206 : decode cX7_digest 206 = .ok (.lload_n 1, 1) := by decide +kernel
theorem dX7_digest_207 : decode cX7_digest 207 = .ok (.aload_n 0, 1) := by decide +kernel
theorem dX7_digest_208 : decode cX7_digest 208 = .ok (.bipush 7, 2) := by decide +kernel
theorem dX7_digest_210 : decode cX7_digest 210 = .ok (.bipush 6, 2) := by decide +kernel
theorem dX7_digest_212 : decode cX7_digest 212 = .ok (.iconst 1, 1) := by decide +kernel
theorem dX7_digest_213 : decode cX7_digest 213 = .ok (.invokevirtual 340, 3) := by decide +kernel
theorem dX7_digest_216 : decode cX7_digest 216 = .ok (.i2l, 1) := by decide +kernel
theorem dX7_digest_217 : decode cX7_digest 217 = .ok (.invokestatic 303, 3) := by decide +kernel
theorem dX7_digest_220 : decode cX7_digest 220 = .ok (.lreturn, 1) := by decide +kernel
theorem dX7_mix_0 : decode cX7_mix 0 = .ok (.ldc2_w 343, 3) := by decide +kernel
theorem dX7_mix_3 : decode cX7_mix 3 = .ok (.lload_n 0, 1) := by decide +kernel
theorem dX7_mix_4 : decode cX7_mix 4 = .ok (.lmul, 1) := by decide +kernel
theorem dX7_mix_5 : decode cX7_mix 5 = .ok (.lload_n 2, 1) := by decide +kernel
theorem dX7_mix_6 : decode cX7_mix 6 = .ok (.ladd, 1) := by decide +kernel
theorem dX7_mix_7 : decode cX7_mix 7 = .ok (.lreturn, 1) := by decide +kernel
theorem dX7_mixCouple_0 : decode cX7_mixCouple 0 = .ok (.lload_n 1, 1) := by decide +kernel
theorem dX7_mixCouple_1 : decode cX7_mixCouple 1 = .ok (.lstore 4, 2) := by decide +kernel
theorem dX7_mixCouple_3 : decode cX7_mixCouple 3 = .ok (.iconst 0, 1) := by decide +kernel
theorem dX7_mixCouple_4 : decode cX7_mixCouple 4 = .ok (.istore 6, 2) := by decide +kernel
theorem dX7_mixCouple_6 : decode cX7_mixCouple 6 = .ok (.iload 6, 2) := by decide +kernel
theorem dX7_mixCouple_8 : decode cX7_mixCouple 8 = .ok (.iconst 3, 1) := by decide +kernel
theorem dX7_mixCouple_9 : decode cX7_mixCouple 9 = .ok (.if_icmp .gt 24, 3) := by decide +kernel
theorem dX7_mixCouple_12 : decode cX7_mixCouple 12 = .ok (.lload 4, 2) := by decide +kernel
theorem dX7_mixCouple_14 : decode cX7_mixCouple 14 = .ok (.aload_n 0, 1) := by decide +kernel
theorem dX7_mixCouple_15 : decode cX7_mixCouple 15 = .ok (.iload_n 3, 1) := by decide +kernel
theorem dX7_mixCouple_16 : decode cX7_mixCouple 16 = .ok (.iload 6, 2) := by decide +kernel
theorem dX7_mixCouple_18 : decode cX7_mixCouple 18 = .ok (.invokevirtual 345, 3) := by decide +kernel
theorem dX7_mixCouple_21 : decode cX7_mixCouple 21 = .ok (.i2l, 1) := by decide +kernel
theorem dX7_mixCouple_22 : decode cX7_mixCouple 22 = .ok (.invokestatic 303, 3) := by decide +kernel
theorem dX7_mixCouple_25 : decode cX7_mixCouple 25 = .ok (.lstore 4, 2) := by decide +kernel
theorem dX7_mixCouple_27 : decode cX7_mixCouple 27 = .ok (.iinc 6 1, 3) := by decide +kernel
theorem dX7_mixCouple_30 : decode cX7_mixCouple 30 = .ok (.goto (-24), 3) := by decide +kernel
theorem dX7_mixCouple_33 : decode cX7_mixCouple 33 = .ok (.aload_n 0, 1) := by decide +kernel
theorem dX7_mixCouple_34 : decode cX7_mixCouple 34 = .ok (.lload 4, 2) := by decide +kernel
theorem dX7_mixCouple_36 : decode cX7_mixCouple 36 = .ok (.iconst 0, 1) := by decide +kernel
theorem dX7_mixCouple_37 : decode cX7_mixCouple 37 = .ok (.iload_n 3, 1) := by decide +kernel
theorem dX7_mixCouple_38 : decode cX7_mixCouple 38 = .ok (.invokevirtual 348, 3) := by decide +kernel
theorem dX7_mixCouple_41 : decode cX7_mixCouple 41 = .ok (.lstore 4, 2) := by decide +kernel
theorem dX7_mixCouple_43 : decode cX7_mixCouple 43 = .ok (.aload_n 0, 1) := by decide +kernel
theorem dX7_mixCouple_44 : decode cX7_mixCouple 44 = .ok (.lload 4, 2) := by decide +kernel
theorem dX7_mixCouple_46 : decode cX7_mixCouple 46 = .ok (.bipush 6, 2) := by decide +kernel
theorem dX7_mixCouple_48 : decode cX7_mixCouple 48 = .ok (.iload_n 3, 1) := by decide +kernel
theorem dX7_mixCouple_49 : decode cX7_mixCouple 49 = .ok (.invokevirtual 348, 3) := by decide +kernel
theorem dX7_mixCouple_52 : decode cX7_mixCouple 52 = .ok (.lstore 4, 2) := by decide +kernel
theorem dX7_mixCouple_54 : decode cX7_mixCouple 54 = .ok (.aload_n 0, 1) := by decide +kernel
theorem dX7_mixCouple_55 : decode cX7_mixCouple 55 = .ok (.lload 4, 2) := by decide +kernel
theorem dX7_mixCouple_57 : decode cX7_mixCouple 57 = .ok (.bipush 12, 2) := by decide +kernel
theorem dX7_mixCouple_59 : decode cX7_mixCouple 59 = .ok (.iload_n 3, 1) := by decide +kernel
theorem dX7_mixCouple_60 : decode cX7_mixCouple 60 = .ok (.invokevirtual 348, 3) := by decide +kernel
theorem dX7_mixCouple_63 : decode cX7_mixCouple 63 = .ok (.lstore 4, 2) := by decide +kernel
theorem dX7_mixCouple_65 : decode cX7_mixCouple 65 = .ok (.aload_n 0, 1) := by decide +kernel
theorem dX7_mixCouple_66 : decode cX7_mixCouple 66 = .ok (.lload 4, 2) := by decide +kernel
theorem dX7_mixCouple_68 : decode cX7_mixCouple 68 = .ok (.bipush 19, 2) := by decide +kernel
theorem dX7_mixCouple_70 : decode cX7_mixCouple 70 = .ok (.iload_n 3, 1) := by decide +kernel
theorem dX7_mixCouple_71 : decode cX7_mixCouple 71 = .ok (.invokevirtual 348, 3) := by decide +kernel
theorem dX7_mixCouple_74 : decode cX7_mixCouple 74 = .ok (.lstore 4, 2) := by decide +kernel
theorem dX7_mixCouple_76 : decode cX7_mixCouple 76 = .ok (.lload 4, 2) := by decide +kernel
theorem dX7_mixCouple_78 : decode cX7_mixCouple 78 = .ok (.aload_n 0, 1) := by decide +kernel
theorem dX7_mixCouple_79 : decode cX7_mixCouple 79 = .ok (.iload_n 3, 1) := by decide +kernel
theorem dX7_mixCouple_80 : decode cX7_mixCouple 80 = .ok (.invokevirtual 352, 3) := by decide +kernel
theorem dX7_mixCouple_83 : decode cX7_mixCouple 83 = .ok (.i2l, 1) := by decide +kernel
theorem dX7_mixCouple_84 : decode cX7_mixCouple 84 = .ok (.invokestatic 303, 3) := by decide +kernel
theorem dX7_mixCouple_87 : decode cX7_mixCouple 87 = .ok (.lstore 4, 2) := by decide +kernel
theorem dX7_mixCouple_89 : decode cX7_mixCouple 89 = .ok (.lload 4, 2) := by decide +kernel
theorem dX7_mixCouple_91 : decode cX7_mixCouple 91 = .ok (.aload_n 0, 1) := by decide +kernel
theorem dX7_mixCouple_92 : decode cX7_mixCouple 92 = .ok (.iload_n 3, 1) := by decide +kernel
theorem dX7_mixCouple_93 : decode cX7_mixCouple 93 = .ok (.bipush 12, 2) := by decide +kernel
theorem dX7_mixCouple_95 : decode cX7_mixCouple 95 = .ok (.iconst 0, 1) := by decide +kernel
theorem dX7_mixCouple_96 : decode cX7_mixCouple 96 = .ok (.invokevirtual 355, 3) := by decide +kernel
theorem dX7_mixCouple_99 : decode cX7_mixCouple 99 = .ok (.i2l, 1) := by decide +kernel
theorem dX7_mixCouple_100 : decode cX7_mixCouple 100 = .ok (.invokestatic 303, 3) := by decide +kernel
theorem dX7_mixCouple_103 : decode cX7_mixCouple 103 = .ok (.lstore 4, 2) := by decide +kernel
theorem dX7_mixCouple_105 : decode cX7_mixCouple 105 = .ok (.lload 4, 2) := by decide +kernel
theorem dX7_mixCouple_107 : decode cX7_mixCouple 107 = .ok (.aload_n 0, 1) := by decide +kernel
theorem dX7_mixCouple_108 : decode cX7_mixCouple 108 = .ok (.iload_n 3, 1) := by decide +kernel
theorem dX7_mixCouple_109 : decode cX7_mixCouple 109 = .ok (.bipush 12, 2) := by decide +kernel
theorem dX7_mixCouple_111 : decode cX7_mixCouple 111 = .ok (.iconst 1, 1) := by decide +kernel
theorem dX7_mixCouple_112 : decode cX7_mixCouple 112 = .ok (.invokevirtual 355, 3) := by decide +kernel
theorem dX7_mixCouple_115 : decode cX7_mixCouple 115 = .ok (.i2l, 1) := by decide +kernel
theorem dX7_mixCouple_116 : decode cX7_mixCouple 116 = .ok (.invokestatic 303, 3) := by decide +kernel
theorem dX7_mixCouple_119 : decode cX7_mixCouple 119 = .ok (.lstore 4, 2) := by decide +kernel
theorem dX7_mixCouple_121 : decode cX7_mixCouple 121 = .ok (.iconst 0, 1) := by decide +kernel
theorem dX7_mixCouple_122 : decode cX7_mixCouple 122 = .ok (.istore 6, 2) := by decide +kernel
theorem dX7_mixCouple_124 : decode cX7_mixCouple 124 = .ok (.iload 6, 2) := by decide +kernel
theorem dX7_mixCouple_126 : decode cX7_mixCouple 126 = .ok (.iconst 2, 1) := by decide +kernel
theorem dX7_mixCouple_127 : decode cX7_mixCouple 127 = .ok (.if_icmp .gt 26, 3) := by decide +kernel
theorem dX7_mixCouple_130 : decode cX7_mixCouple 130 = .ok (.lload 4, 2) := by decide +kernel
theorem dX7_mixCouple_132 : decode cX7_mixCouple 132 = .ok (.aload_n 0, 1) := by decide +kernel
theorem dX7_mixCouple_133 : decode cX7_mixCouple 133 = .ok (.iload_n 3, 1) := by decide +kernel
theorem dX7_mixCouple_134 : decode cX7_mixCouple 134 = .ok (.bipush 12, 2) := by decide +kernel
theorem dX7_mixCouple_136 : decode cX7_mixCouple 136 = .ok (.iload 6, 2) := by decide +kernel
theorem dX7_mixCouple_138 : decode cX7_mixCouple 138 = .ok (.invokevirtual 358, 3) := by decide +kernel
theorem dX7_mixCouple_141 : decode cX7_mixCouple 141 = .ok (.i2l, 1) := by decide +kernel
theorem dX7_mixCouple_142 : decode cX7_mixCouple 142 = .ok (.invokestatic 303, 3) := by decide +kernel
theorem dX7_mixCouple_145 : decode cX7_mixCouple 145 = .ok (.lstore 4, 2) := by decide +kernel
theorem dX7_mixCouple_147 : decode cX7_mixCouple 147 = .ok (.iinc 6 1, 3) := by decide +kernel
theorem dX7_mixCouple_150 : decode cX7_mixCouple 150 = .ok (.goto (-26), 3) := by decide +kernel
theorem dX7_mixCouple_153 : decode cX7_mixCouple 153 = .ok (.lload 4, 2) := by decide +kernel
theorem dX7_mixCouple_155 : decode cX7_mixCouple 155 = .ok (.aload_n 0, 1) := by decide +kernel
theorem dX7_mixCouple_156 : decode cX7_mixCouple 156 = .ok (.iload_n 3, 1) := by decide +kernel
theorem dX7_mixCouple_157 : decode cX7_mixCouple 157 = .ok (.iconst 0, 1) := by decide +kernel
theorem dX7_mixCouple_158 : decode cX7_mixCouple 158 = .ok (.invokevirtual 361, 3) := by decide +kernel
theorem dX7_mixCouple_161 : decode cX7_mixCouple 161 = .ok (.i2l, 1) := by decide +kernel
theorem dX7_mixCouple_162 : decode cX7_mixCouple 162 = .ok (.invokestatic 303, 3) := by decide +kernel
theorem dX7_mixCouple_165 : decode cX7_mixCouple 165 = .ok (.lstore 4, 2) := by decide +kernel
theorem dX7_mixCouple_167 : decode cX7_mixCouple 167 = .ok (.lload 4, 2) := by decide +kernel
theorem dX7_mixCouple_169 : decode cX7_mixCouple 169 = .ok (.aload_n 0, 1) := by decide +kernel
theorem dX7_mixCouple_170 : decode cX7_mixCouple 170 = .ok (.iload_n 3, 1) := by decide +kernel
theorem dX7_mixCouple_171 : decode cX7_mixCouple 171 = .ok (.iconst 1, 1) := by decide +kernel
theorem dX7_mixCouple_172 : decode cX7_mixCouple 172 = .ok (.invokevirtual 361, 3) := by decide +kernel
theorem dX7_mixCouple_175 : decode cX7_mixCouple 175 = .ok (.i2l, 1) := by decide +kernel
theorem dX7_mixCouple_176 : decode cX7_mixCouple 176 = .ok (.invokestatic 303, 3) := by decide +kernel
theorem dX7_mixCouple_179 : decode cX7_mixCouple 179 = .ok (.lstore 4, 2) := by decide +kernel
theorem dX7_mixCouple_181 : decode cX7_mixCouple 181 = .ok (.lload 4, 2) := by decide +kernel
theorem dX7_mixCouple_183 : decode cX7_mixCouple 183 = .ok (.aload_n 0, 1) := by decide +kernel
theorem dX7_mixCouple_184 : decode cX7_mixCouple 184 = .ok (.iload_n 3, 1) := by decide +kernel
theorem dX7_mixCouple_185 : decode cX7_mixCouple 185 = .ok (.invokevirtual 364, 3) := by decide +kernel
theorem dX7_mixCouple_188 : decode cX7_mixCouple 188 = .ok (.i2l, 1) := by decide +kernel
theorem dX7_mixCouple_189 : decode cX7_mixCouple 189 = .ok (.invokestatic 303, 3) := by decide +kernel
theorem dX7_mixCouple_192 : decode cX7_mixCouple 192 = .ok (.lreturn, 1) := by decide +kernel
theorem dX7_mixOneDay_0 : decode cX7_mixOneDay 0 = .ok (.lload_n 1, 1) := by decide +kernel
theorem dX7_mixOneDay_1 : decode cX7_mixOneDay 1 = .ok (.lstore 5, 2) := by decide +kernel
theorem dX7_mixOneDay_3 : decode cX7_mixOneDay 3 = .ok (.iconst 0, 1) := by decide +kernel
theorem dX7_mixOneDay_4 : decode cX7_mixOneDay 4 = .ok (.istore 7, 2) := by decide +kernel
theorem dX7_mixOneDay_6 : decode cX7_mixOneDay 6 = .ok (.iload 7, 2) := by decide +kernel
theorem dX7_mixOneDay_8 : decode cX7_mixOneDay 8 = .ok (.iconst 4, 1) := by decide +kernel
theorem dX7_mixOneDay_9 : decode cX7_mixOneDay 9 = .ok (.if_icmp .gt 26, 3) := by decide +kernel
theorem dX7_mixOneDay_12 : decode cX7_mixOneDay 12 = .ok (.lload 5, 2) := by decide +kernel
theorem dX7_mixOneDay_14 : decode cX7_mixOneDay 14 = .ok (.aload_n 0, 1) := by decide +kernel
theorem dX7_mixOneDay_15 : decode cX7_mixOneDay 15 = .ok (.iload_n 3, 1) := by decide +kernel
theorem dX7_mixOneDay_16 : decode cX7_mixOneDay 16 = .ok (.iload 4, 2) := by decide +kernel
theorem dX7_mixOneDay_18 : decode cX7_mixOneDay 18 = .ok (.iload 7, 2) := by decide +kernel
theorem dX7_mixOneDay_20 : decode cX7_mixOneDay 20 = .ok (.invokevirtual 367, 3) := by decide +kernel
theorem dX7_mixOneDay_23 : decode cX7_mixOneDay 23 = .ok (.i2l, 1) := by decide +kernel
theorem dX7_mixOneDay_24 : decode cX7_mixOneDay 24 = .ok (.invokestatic 303, 3) := by decide +kernel
theorem dX7_mixOneDay_27 : decode cX7_mixOneDay 27 = .ok (.lstore 5, 2) := by decide +kernel
theorem dX7_mixOneDay_29 : decode cX7_mixOneDay 29 = .ok (.iinc 7 1, 3) := by decide +kernel
theorem dX7_mixOneDay_32 : decode cX7_mixOneDay 32 = .ok (.goto (-26), 3) := by decide +kernel
theorem dX7_mixOneDay_35 : decode cX7_mixOneDay 35 = .ok (.iconst 0, 1) := by decide +kernel
theorem dX7_mixOneDay_36 : decode cX7_mixOneDay 36 = .ok (.istore 7, 2) := by decide +kernel
theorem dX7_mixOneDay_38 : decode cX7_mixOneDay 38 = .ok (.iload 7, 2) := by decide +kernel
theorem dX7_mixOneDay_40 : decode cX7_mixOneDay 40 = .ok (.iconst 3, 1) := by decide +kernel
theorem dX7_mixOneDay_41 : decode cX7_mixOneDay 41 = .ok (.if_icmp .gt 26, 3) := by decide +kernel
theorem dX7_mixOneDay_44 : decode cX7_mixOneDay 44 = .ok (.lload 5, 2) := by decide +kernel
theorem dX7_mixOneDay_46 : decode cX7_mixOneDay 46 = .ok (.aload_n 0, 1) := by decide +kernel
theorem dX7_mixOneDay_47 : decode cX7_mixOneDay 47 = .ok (.iload_n 3, 1) := by decide +kernel
theorem dX7_mixOneDay_48 : decode cX7_mixOneDay 48 = .ok (.iload 4, 2) := by decide +kernel
theorem dX7_mixOneDay_50 : decode cX7_mixOneDay 50 = .ok (.iload 7, 2) := by decide +kernel
theorem dX7_mixOneDay_52 : decode cX7_mixOneDay 52 = .ok (.invokevirtual 370, 3) := by decide +kernel
theorem dX7_mixOneDay_55 : decode cX7_mixOneDay 55 = .ok (.i2l, 1) := by decide +kernel
theorem dX7_mixOneDay_56 : decode cX7_mixOneDay 56 = .ok (.invokestatic 303, 3) := by decide +kernel
theorem dX7_mixOneDay_59 : decode cX7_mixOneDay 59 = .ok (.lstore 5, 2) := by decide +kernel
theorem dX7_mixOneDay_61 : decode cX7_mixOneDay 61 = .ok (.iinc 7 1, 3) := by decide +kernel
theorem dX7_mixOneDay_64 : decode cX7_mixOneDay 64 = .ok (.goto (-26), 3) := by decide +kernel
theorem dX7_mixOneDay_67 : decode cX7_mixOneDay 67 = .ok (.lload 5, 2) := by decide +kernel
theorem dX7_mixOneDay_69 : decode cX7_mixOneDay 69 = .ok (.lreturn, 1) := by decide +kernel
theorem dX7_mixPairs_0 : decode cX7_mixPairs 0 = .ok (.lload_n 1, 1) := by decide +kernel
theorem dX7_mixPairs_1 : decode cX7_mixPairs 1 = .ok (.lstore_n 3, 1) := by decide +kernel
theorem dX7_mixPairs_2 : decode cX7_mixPairs 2 = .ok (.iconst 0, 1) := by decide +kernel
theorem dX7_mixPairs_3 : decode cX7_mixPairs 3 = .ok (.istore 5, 2) := by decide +kernel
theorem dX7_mixPairs_5 : decode cX7_mixPairs 5 = .ok (.iload 5, 2) := by decide +kernel
theorem dX7_mixPairs_7 : decode cX7_mixPairs 7 = .ok (.aload_n 0, 1) := by decide +kernel
theorem dX7_mixPairs_8 : decode cX7_mixPairs 8 = .ok (.getfield 20, 3) := by decide +kernel
theorem dX7_mixPairs_11 : decode cX7_mixPairs 11 = .ok (.getfield 212, 3) := by decide +kernel
theorem dX7_mixPairs_14 : decode cX7_mixPairs 14 = .ok (.if_icmp .ge 65, 3) := by decide +kernel
theorem dX7_mixPairs_17 : decode cX7_mixPairs 17 = .ok (.iload 5, 2) := by decide +kernel
theorem dX7_mixPairs_19 : decode cX7_mixPairs 19 = .ok (.iconst 1, 1) := by decide +kernel
theorem dX7_mixPairs_20 : decode cX7_mixPairs 20 = .ok (.iadd, 1) := by decide +kernel
theorem dX7_mixPairs_21 : decode cX7_mixPairs 21 = .ok (.istore 6, 2) := by decide +kernel
theorem dX7_mixPairs_23 : decode cX7_mixPairs 23 = .ok (.iload 6, 2) := by decide +kernel
theorem dX7_mixPairs_25 : decode cX7_mixPairs 25 = .ok (.aload_n 0, 1) := by decide +kernel
theorem dX7_mixPairs_26 : decode cX7_mixPairs 26 = .ok (.getfield 20, 3) := by decide +kernel
theorem dX7_mixPairs_29 : decode cX7_mixPairs 29 = .ok (.getfield 212, 3) := by decide +kernel
theorem dX7_mixPairs_32 : decode cX7_mixPairs 32 = .ok (.if_icmp .ge 41, 3) := by decide +kernel
theorem dX7_mixPairs_35 : decode cX7_mixPairs 35 = .ok (.lload_n 3, 1) := by decide +kernel
theorem dX7_mixPairs_36 : decode cX7_mixPairs 36 = .ok (.aload_n 0, 1) := by decide +kernel
theorem dX7_mixPairs_37 : decode cX7_mixPairs 37 = .ok (.bipush 9, 2) := by decide +kernel
theorem dX7_mixPairs_39 : decode cX7_mixPairs 39 = .ok (.iload 5, 2) := by decide +kernel
theorem dX7_mixPairs_41 : decode cX7_mixPairs 41 = .ok (.iload 6, 2) := by decide +kernel
theorem dX7_mixPairs_43 : decode cX7_mixPairs 43 = .ok (.invokevirtual 373, 3) := by decide +kernel
theorem dX7_mixPairs_46 : decode cX7_mixPairs 46 = .ok (.i2l, 1) := by decide +kernel
theorem dX7_mixPairs_47 : decode cX7_mixPairs 47 = .ok (.invokestatic 303, 3) := by decide +kernel
theorem dX7_mixPairs_50 : decode cX7_mixPairs 50 = .ok (.lstore_n 3, 1) := by decide +kernel
theorem dX7_mixPairs_51 : decode cX7_mixPairs 51 = .ok (.lload_n 3, 1) := by decide +kernel
theorem dX7_mixPairs_52 : decode cX7_mixPairs 52 = .ok (.aload_n 0, 1) := by decide +kernel
theorem dX7_mixPairs_53 : decode cX7_mixPairs 53 = .ok (.bipush 19, 2) := by decide +kernel
theorem dX7_mixPairs_55 : decode cX7_mixPairs 55 = .ok (.iload 5, 2) := by decide +kernel
theorem dX7_mixPairs_57 : decode cX7_mixPairs 57 = .ok (.iload 6, 2) := by decide +kernel
theorem dX7_mixPairs_59 : decode cX7_mixPairs 59 = .ok (.invokevirtual 373, 3) := by decide +kernel
theorem dX7_mixPairs_62 : decode cX7_mixPairs 62 = .ok (.i2l, 1) := by decide +kernel
theorem dX7_mixPairs_63 : decode cX7_mixPairs 63 = .ok (.invokestatic 303, 3) := by decide +kernel
theorem dX7_mixPairs_66 : decode cX7_mixPairs 66 = .ok (.lstore_n 3, 1) := by decide +kernel
theorem dX7_mixPairs_67 : decode cX7_mixPairs 67 = .ok (.iinc 6 1, 3) := by decide +kernel
theorem dX7_mixPairs_70 : decode cX7_mixPairs 70 = .ok (.goto (-47), 3) := by decide +kernel
theorem dX7_mixPairs_73 : decode cX7_mixPairs 73 = .ok (.iinc 5 1, 3) := by decide +kernel
theorem dX7_mixPairs_76 : decode cX7_mixPairs 76 = .ok (.goto (-71), 3) := by decide +kernel
theorem dX7_mixPairs_79 : decode cX7_mixPairs 79 = .ok (.lload_n 3, 1) := by decide +kernel
theorem dX7_mixPairs_80 : decode cX7_mixPairs 80 = .ok (.lreturn, 1) := by decide +kernel
theorem dX7_mixDays_0 : decode cX7_mixDays 0 = .ok (.lload_n 1, 1) := by decide +kernel
theorem dX7_mixDays_1 : decode cX7_mixDays 1 = .ok (.lstore_n 3, 1) := by decide +kernel
theorem dX7_mixDays_2 : decode cX7_mixDays 2 = .ok (.iconst 0, 1) := by decide +kernel
theorem dX7_mixDays_3 : decode cX7_mixDays 3 = .ok (.istore 5, 2) := by decide +kernel
theorem dX7_mixDays_5 : decode cX7_mixDays 5 = .ok (.iload 5, 2) := by decide +kernel
theorem dX7_mixDays_7 : decode cX7_mixDays 7 = .ok (.bipush 20, 2) := by decide +kernel
theorem dX7_mixDays_9 : decode cX7_mixDays 9 = .ok (.if_icmp .ge 47, 3) := by decide +kernel
theorem dX7_mixDays_12 : decode cX7_mixDays 12 = .ok (.lload_n 3, 1) := by decide +kernel
theorem dX7_mixDays_13 : decode cX7_mixDays 13 = .ok (.aload_n 0, 1) := by decide +kernel
theorem dX7_mixDays_14 : decode cX7_mixDays 14 = .ok (.iload 5, 2) := by decide +kernel
theorem dX7_mixDays_16 : decode cX7_mixDays 16 = .ok (.iconst 0, 1) := by decide +kernel
theorem dX7_mixDays_17 : decode cX7_mixDays 17 = .ok (.invokevirtual 287, 3) := by decide +kernel
theorem dX7_mixDays_20 : decode cX7_mixDays 20 = .ok (.i2l, 1) := by decide +kernel
theorem dX7_mixDays_21 : decode cX7_mixDays 21 = .ok (.invokestatic 303, 3) := by decide +kernel
theorem dX7_mixDays_24 : decode cX7_mixDays 24 = .ok (.lstore_n 3, 1) := by decide +kernel
theorem dX7_mixDays_25 : decode cX7_mixDays 25 = .ok (.lload_n 3, 1) := by decide +kernel
theorem dX7_mixDays_26 : decode cX7_mixDays 26 = .ok (.aload_n 0, 1) := by decide +kernel
theorem dX7_mixDays_27 : decode cX7_mixDays 27 = .ok (.iload 5, 2) := by decide +kernel
theorem dX7_mixDays_29 : decode cX7_mixDays 29 = .ok (.iconst 1, 1) := by decide +kernel
theorem dX7_mixDays_30 : decode cX7_mixDays 30 = .ok (.invokevirtual 287, 3) := by decide +kernel
theorem dX7_mixDays_33 : decode cX7_mixDays 33 = .ok (.i2l, 1) := by decide +kernel
theorem dX7_mixDays_34 : decode cX7_mixDays 34 = .ok (.invokestatic 303, 3) := by decide +kernel
theorem dX7_mixDays_37 : decode cX7_mixDays 37 = .ok (.lstore_n 3, 1) := by decide +kernel
theorem dX7_mixDays_38 : decode cX7_mixDays 38 = .ok (.lload_n 3, 1) := by decide +kernel
theorem dX7_mixDays_39 : decode cX7_mixDays 39 = .ok (.aload_n 0, 1) := by decide +kernel
theorem dX7_mixDays_40 : decode cX7_mixDays 40 = .ok (.iload 5, 2) := by decide +kernel
theorem dX7_mixDays_42 : decode cX7_mixDays 42 = .ok (.invokevirtual 290, 3) := by decide +kernel
theorem dX7_mixDays_45 : decode cX7_mixDays 45 = .ok (.i2l, 1) := by decide +kernel
theorem dX7_mixDays_46 : decode cX7_mixDays 46 = .ok (.invokestatic 303, 3) := by decide +kernel
theorem dX7_mixDays_49 : decode cX7_mixDays 49 = .ok (.lstore_n 3, 1) := by decide +kernel
theorem dX7_mixDays_50 : decode cX7_mixDays 50 = .ok (.iinc 5 1, 3) := by decide +kernel
theorem dX7_mixDays_53 : decode cX7_mixDays 53 = .ok (.goto (-48), 3) := by decide +kernel
theorem dX7_mixDays_56 : decode cX7_mixDays 56 = .ok (.lload_n 3, 1) := by decide +kernel
theorem dX7_mixDays_57 : decode cX7_mixDays 57 = .ok (.lreturn, 1) := by decide +kernel
theorem dX7_isWithin_0 : decode cX7_isWithin 0 = .ok (.iload_n 0, 1) := by decide +kernel
theorem dX7_isWithin_1 : decode cX7_isWithin 1 = .ok (.iload_n 1, 1) := by decide +kernel
theorem dX7_isWithin_2 : decode cX7_isWithin 2 = .ok (.if_icmp .lt 12, 3) := by decide +kernel
theorem dX7_isWithin_5 : decode cX7_isWithin 5 = .ok (.iload_n 0, 1) := by decide +kernel
theorem dX7_isWithin_6 : decode cX7_isWithin 6 = .ok (.iload_n 2, 1) := by decide +kernel
theorem dX7_isWithin_7 : decode cX7_isWithin 7 = .ok (.if_icmp .gt 7, 3) := by decide +kernel
theorem dX7_isWithin_10 : decode cX7_isWithin 10 = .ok (.iconst 1, 1) := by decide +kernel
theorem dX7_isWithin_11 : decode cX7_isWithin 11 = .ok (.goto 4, 3) := by decide +kernel
theorem dX7_isWithin_14 : decode cX7_isWithin 14 = .ok (.iconst 0, 1) := by decide +kernel
theorem dX7_isWithin_15 : decode cX7_isWithin 15 = .ok (.ireturn, 1) := by decide +kernel
theorem dX7_isDay_0 : decode cX7_isDay 0 = .ok (.iload_n 0, 1) := by decide +kernel
theorem dX7_isDay_1 : decode cX7_isDay 1 = .ok (.iconst 0, 1) := by decide +kernel
theorem dX7_isDay_2 : decode cX7_isDay 2 = .ok (.bipush 19, 2) := by decide +kernel
theorem dX7_isDay_4 : decode cX7_isDay 4 = .ok (.invokestatic 72, 3) := by decide +kernel
theorem dX7_isDay_7 : decode cX7_isDay 7 = .ok (.ireturn, 1) := by decide +kernel
theorem dX7_isSheet_0 : decode cX7_isSheet 0 = .ok (.iload_n 0, 1) := by decide +kernel
theorem dX7_isSheet_1 : decode cX7_isSheet 1 = .ok (.iconst 0, 1) := by decide +kernel
theorem dX7_isSheet_2 : decode cX7_isSheet 2 = .ok (.iconst 3, 1) := by decide +kernel
theorem dX7_isSheet_3 : decode cX7_isSheet 3 = .ok (.invokestatic 72, 3) := by decide +kernel
theorem dX7_isSheet_6 : decode cX7_isSheet 6 = .ok (.ireturn, 1) := by decide +kernel
theorem dX7_isForm_0 : decode cX7_isForm 0 = .ok (.iload_n 0, 1) := by decide +kernel
theorem dX7_isForm_1 : decode cX7_isForm 1 = .ok (.iconst 0, 1) := by decide +kernel
theorem dX7_isForm_2 : decode cX7_isForm 2 = .ok (.iconst 2, 1) := by decide +kernel
theorem dX7_isForm_3 : decode cX7_isForm 3 = .ok (.invokestatic 72, 3) := by decide +kernel
theorem dX7_isForm_6 : decode cX7_isForm 6 = .ok (.ireturn, 1) := by decide +kernel
theorem dX7_pick_0 : decode cX7_pick 0 = .ok (.iload_n 0, 1) := by decide +kernel
theorem dX7_pick_1 : decode cX7_pick 1 = .ok (.ifCond .ne 7, 3) := by decide +kernel
theorem dX7_pick_4 : decode cX7_pick 4 = .ok (.iload_n 1, 1) := by decide +kernel
theorem dX7_pick_5 : decode cX7_pick 5 = .ok (.goto 13, 3) := by decide +kernel
theorem dX7_pick_8 : decode cX7_pick 8 = .ok (.iload_n 0, 1) := by decide +kernel
theorem dX7_pick_9 : decode cX7_pick 9 = .ok (.iconst 1, 1) := by decide +kernel
theorem dX7_pick_10 : decode cX7_pick 10 = .ok (.if_icmp .ne 7, 3) := by decide +kernel
theorem dX7_pick_13 : decode cX7_pick 13 = .ok (.iload_n 2, 1) := by decide +kernel
theorem dX7_pick_14 : decode cX7_pick 14 = .ok (.goto 4, 3) := by decide +kernel
theorem dX7_pick_17 : decode cX7_pick 17 = .ok (.iload_n 3, 1) := by decide +kernel
theorem dX7_pick_18 : decode cX7_pick 18 = .ok (.ireturn, 1) := by decide +kernel
theorem dX7_bitOf_0 : decode cX7_bitOf 0 = .ok (.iconst 0, 1) := by decide +kernel
theorem dX7_bitOf_1 : decode cX7_bitOf 1 = .ok (.istore_n 2, 1) := by decide +kernel
theorem dX7_bitOf_2 : decode cX7_bitOf 2 = .ok (.iconst 0, 1) := by decide +kernel
theorem dX7_bitOf_3 : decode cX7_bitOf 3 = .ok (.istore_n 3, 1) := by decide +kernel
theorem dX7_bitOf_4 : decode cX7_bitOf 4 = .ok (.iload_n 3, 1) := by decide +kernel
theorem dX7_bitOf_5 : decode cX7_bitOf 5 = .ok (.bipush 32, 2) := by decide +kernel
theorem dX7_bitOf_7 : decode cX7_bitOf 7 = .ok (.if_icmp .ge 28, 3) := by decide +kernel
theorem dX7_bitOf_10 : decode cX7_bitOf 10 = .ok (.iload_n 0, 1) := by decide +kernel
theorem dX7_bitOf_11 : decode cX7_bitOf 11 = .ok (.iload_n 3, 1) := by decide +kernel
theorem dX7_bitOf_12 : decode cX7_bitOf 12 = .ok (.iushr, 1) := by decide +kernel
theorem dX7_bitOf_13 : decode cX7_bitOf 13 = .ok (.iconst 1, 1) := by decide +kernel
theorem dX7_bitOf_14 : decode cX7_bitOf 14 = .ok (.iand, 1) := by decide +kernel
theorem dX7_bitOf_15 : decode cX7_bitOf 15 = .ok (.iconst 1, 1) := by decide +kernel
theorem dX7_bitOf_16 : decode cX7_bitOf 16 = .ok (.if_icmp .ne 13, 3) := by decide +kernel
theorem dX7_bitOf_19 : decode cX7_bitOf 19 = .ok (.iload_n 2, 1) := by decide +kernel
theorem dX7_bitOf_20 : decode cX7_bitOf 20 = .ok (.iload_n 1, 1) := by decide +kernel
theorem dX7_bitOf_21 : decode cX7_bitOf 21 = .ok (.if_icmp .ne 5, 3) := by decide +kernel
theorem dX7_bitOf_24 : decode cX7_bitOf 24 = .ok (.iload_n 3, 1) := by decide +kernel
theorem dX7_bitOf_25 : decode cX7_bitOf 25 = .ok (.ireturn, 1) := by decide +kernel
theorem dX7_bitOf_26 : decode cX7_bitOf 26 = .ok (.iinc 2 1, 3) := by decide +kernel
theorem dX7_bitOf_29 : decode cX7_bitOf 29 = .ok (.iinc 3 1, 3) := by decide +kernel
theorem dX7_bitOf_32 : decode cX7_bitOf 32 = .ok (.goto (-28), 3) := by decide +kernel
theorem dX7_bitOf_35 : decode cX7_bitOf 35 = .ok (.iconst (-1), 1) := by decide +kernel
theorem dX7_bitOf_36 : decode cX7_bitOf 36 = .ok (.ireturn, 1) := by decide +kernel
theorem dX7_find_0 : decode cX7_find 0 = .ok (.aload_n 0, 1) := by decide +kernel
theorem dX7_find_1 : decode cX7_find 1 = .ok (.iload_n 1, 1) := by decide +kernel
theorem dX7_find_2 : decode cX7_find 2 = .ok (.putfield 295, 3) := by decide +kernel
theorem dX7_find_5 : decode cX7_find 5 = .ok (.bipush (-10), 2) := by decide +kernel
theorem dX7_find_7 : decode cX7_find 7 = .ok (.iload_n 1, 1) := by decide +kernel
theorem dX7_find_8 : decode cX7_find 8 = .ok (.isub, 1) := by decide +kernel
theorem dX7_find_9 : decode cX7_find 9 = .ok (.ireturn, 1) := by decide +kernel
theorem dX7_comeTo_0 : decode cX7_comeTo 0 = .ok (.aload_n 0, 1) := by decide +kernel
theorem dX7_comeTo_1 : decode cX7_comeTo 1 = .ok (.getfield 47, 3) := by decide +kernel
theorem dX7_comeTo_4 : decode cX7_comeTo 4 = .ok (.aload_n 0, 1) := by decide +kernel
theorem dX7_comeTo_5 : decode cX7_comeTo 5 = .ok (.getfield 20, 3) := by decide +kernel
theorem dX7_comeTo_8 : decode cX7_comeTo 8 = .ok (.aload_n 0, 1) := by decide +kernel
theorem dX7_comeTo_9 : decode cX7_comeTo 9 = .ok (.getfield 30, 3) := by decide +kernel
theorem dX7_comeTo_12 : decode cX7_comeTo 12 = .ok (.aload_n 0, 1) := by decide +kernel
theorem dX7_comeTo_13 : decode cX7_comeTo 13 = .ok (.getfield 30, 3) := by decide +kernel
theorem dX7_comeTo_16 : decode cX7_comeTo 16 = .ok (.invokevirtual 134, 3) := by decide +kernel
theorem dX7_comeTo_19 : decode cX7_comeTo 19 = .ok (.iload_n 1, 1) := by decide +kernel
theorem dX7_comeTo_20 : decode cX7_comeTo 20 = .ok (.invokevirtual 253, 3) := by decide +kernel
theorem dX7_comeTo_23 : decode cX7_comeTo 23 = .ok (.return_, 1) := by decide +kernel
theorem dX7_hear_0 : decode cX7_hear 0 = .ok (.aload_n 0, 1) := by decide +kernel
theorem dX7_hear_1 : decode cX7_hear 1 = .ok (.iconst (-1), 1) := by decide +kernel
theorem dX7_hear_2 : decode cX7_hear 2 = .ok (.putfield 13, 3) := by decide +kernel
theorem dX7_hear_5 : decode cX7_hear 5 = .ok (.iconst 0, 1) := by decide +kernel
theorem dX7_hear_6 : decode cX7_hear 6 = .ok (.istore_n 1, 1) := by decide +kernel
theorem dX7_hear_7 : decode cX7_hear 7 = .ok (.iload_n 1, 1) := by decide +kernel
theorem dX7_hear_8 : decode cX7_hear 8 = .ok (.aload_n 0, 1) := by decide +kernel
theorem dX7_hear_9 : decode cX7_hear 9 = .ok (.getfield 76, 3) := by decide +kernel
theorem dX7_hear_12 : decode cX7_hear 12 = .ok (.if_icmp .ge 41, 3) := by decide +kernel
theorem dX7_hear_15 : decode cX7_hear 15 = .ok (.aload_n 0, 1) := by decide +kernel
theorem dX7_hear_16 : decode cX7_hear 16 = .ok (.getfield 13, 3) := by decide +kernel
theorem dX7_hear_19 : decode cX7_hear 19 = .ok (.iconst (-1), 1) := by decide +kernel
theorem dX7_hear_20 : decode cX7_hear 20 = .ok (.if_icmp .ne 33, 3) := by decide +kernel
theorem dX7_hear_23 : decode cX7_hear 23 = .ok (.aload_n 0, 1) := by decide +kernel
theorem dX7_hear_24 : decode cX7_hear 24 = .ok (.iload_n 1, 1) := by decide +kernel
theorem dX7_hear_25 : decode cX7_hear 25 = .ok (.iconst 5, 1) := by decide +kernel
theorem dX7_hear_26 : decode cX7_hear 26 = .ok (.idiv, 1) := by decide +kernel
theorem dX7_hear_27 : decode cX7_hear 27 = .ok (.iload_n 1, 1) := by decide +kernel
theorem dX7_hear_28 : decode cX7_hear 28 = .ok (.iconst 5, 1) := by decide +kernel
theorem dX7_hear_29 : decode cX7_hear 29 = .ok (.irem, 1) := by decide +kernel
theorem dX7_hear_30 : decode cX7_hear 30 = .ok (.aload_n 0, 1) := by decide +kernel
theorem dX7_hear_31 : decode cX7_hear 31 = .ok (.getfield 9, 3) := by decide +kernel
theorem dX7_hear_34 : decode cX7_hear 34 = .ok (.iload_n 1, 1) := by decide +kernel
theorem dX7_hear_35 : decode cX7_hear 35 = .ok (.iaload, 1) := by decide +kernel
theorem dX7_hear_36 : decode cX7_hear 36 = .ok (.invokevirtual 376, 3) := by decide +kernel
theorem dX7_hear_39 : decode cX7_hear 39 = .ok (.ifCond .ne 8, 3) := by decide +kernel
theorem dX7_hear_42 : decode cX7_hear 42 = .ok (.aload_n 0, 1) := by decide +kernel
theorem dX7_hear_43 : decode cX7_hear 43 = .ok (.iload_n 1, 1) := by decide +kernel
theorem dX7_hear_44 : decode cX7_hear 44 = .ok (.putfield 13, 3) := by decide +kernel
theorem dX7_hear_47 : decode cX7_hear 47 = .ok (.iinc 1 1, 3) := by decide +kernel
theorem dX7_hear_50 : decode cX7_hear 50 = .ok (.goto (-43), 3) := by decide +kernel
theorem dX7_hear_53 : decode cX7_hear 53 = .ok (.aload_n 0, 1) := by decide +kernel
theorem dX7_hear_54 : decode cX7_hear 54 = .ok (.getfield 13, 3) := by decide +kernel
theorem dX7_hear_57 : decode cX7_hear 57 = .ok (.iconst (-1), 1) := by decide +kernel
theorem dX7_hear_58 : decode cX7_hear 58 = .ok (.if_icmp .ne 28, 3) := by decide +kernel
theorem dX7_hear_61 : decode cX7_hear 61 = .ok (.aload_n 0, 1) := by decide +kernel
theorem dX7_hear_62 : decode cX7_hear 62 = .ok (.getfield 76, 3) := by decide +kernel
theorem dX7_hear_65 : decode cX7_hear 65 = .ok (.ifCond .le 21, 3) := by decide +kernel
theorem dX7_hear_68 : decode cX7_hear 68 = .ok (.aload_n 0, 1) := by decide +kernel
theorem dX7_hear_69 : decode cX7_hear 69 = .ok (.getfield 76, 3) := by decide +kernel
theorem dX7_hear_72 : decode cX7_hear 72 = .ok (.iconst 5, 1) := by decide +kernel
theorem dX7_hear_73 : decode cX7_hear 73 = .ok (.irem, 1) := by decide +kernel
theorem dX7_hear_74 : decode cX7_hear 74 = .ok (.iconst 4, 1) := by decide +kernel
theorem dX7_hear_75 : decode cX7_hear 75 = .ok (.if_icmp .eq 11, 3) := by decide +kernel
theorem dX7_hear_78 : decode cX7_hear 78 = .ok (.aload_n 0, 1) := by decide +kernel
theorem dX7_hear_79 : decode cX7_hear 79 = .ok (.aload_n 0, 1) := by decide +kernel
theorem dX7_hear_80 : decode cX7_hear 80 = .ok (.getfield 76, 3) := by decide +kernel
theorem dX7_hear_83 : decode cX7_hear 83 = .ok (.putfield 13, 3) := by decide +kernel
theorem dX7_hear_86 : decode cX7_hear 86 = .ok (.aload_n 0, 1) := by decide +kernel
theorem dX7_hear_87 : decode cX7_hear 87 = .ok (.getfield 20, 3) := by decide +kernel
theorem dX7_hear_90 : decode cX7_hear 90 = .ok (.aload_n 0, 1) := by decide +kernel
theorem dX7_hear_91 : decode cX7_hear 91 = .ok (.getfield 13, 3) := by decide +kernel
theorem dX7_hear_94 : decode cX7_hear 94 = .ok (.iconst (-1), 1) := by decide +kernel
theorem dX7_hear_95 : decode cX7_hear 95 = .ok (.if_icmp .ne 14, 3) := by decide +kernel
theorem dX7_hear_98 : decode cX7_hear 98 = .ok (.aload_n 0, 1) := by decide +kernel
theorem dX7_hear_99 : decode cX7_hear 99 = .ok (.getfield 76, 3) := by decide +kernel
theorem dX7_hear_102 : decode cX7_hear 102 = .ok (.iconst 1, 1) := by decide +kernel
theorem dX7_hear_103 : decode cX7_hear 103 = .ok (.iadd, 1) := by decide +kernel
theorem dX7_hear_104 : decode cX7_hear 104 = .ok (.iconst 5, 1) := by decide +kernel
theorem dX7_hear_105 : decode cX7_hear 105 = .ok (.idiv, 1) := by decide +kernel
theorem dX7_hear_106 : decode cX7_hear 106 = .ok (.goto 4, 3) := by decide +kernel
theorem dX7_hear_109 : decode cX7_hear 109 = .ok (.iconst 0, 1) := by decide +kernel
theorem dX7_hear_110 : decode cX7_hear 110 = .ok (.putfield 212, 3) := by decide +kernel
theorem dX7_hear_113 : decode cX7_hear 113 = .ok (.return_, 1) := by decide +kernel
theorem dX7_hearByte_0 : decode cX7_hearByte 0 = .ok (.iload_n 1, 1) := by decide +kernel
theorem dX7_hearByte_1 : decode cX7_hearByte 1 = .ok (.bipush 8, 2) := by decide +kernel
theorem dX7_hearByte_3 : decode cX7_hearByte 3 = .ok (.if_icmp .lt 5, 3) := by decide +kernel
theorem dX7_hearByte_6 : decode cX7_hearByte 6 = .ok (.iconst 0, 1) := by decide +kernel
theorem dX7_hearByte_7 : decode cX7_hearByte 7 = .ok (.ireturn, 1) := by decide +kernel
theorem dX7_hearByte_8 : decode cX7_hearByte 8 = .ok (.iload_n 2, 1) := by decide +kernel
theorem dX7_hearByte_9 : decode cX7_hearByte 9 = .ok (.iconst 4, 1) := by decide +kernel
theorem dX7_hearByte_10 : decode cX7_hearByte 10 = .ok (.if_icmp .ne 15, 3) := by decide +kernel
theorem dX7_hearByte_13 : decode cX7_hearByte 13 = .ok (.iload_n 3, 1) := by decide +kernel
theorem dX7_hearByte_14 : decode cX7_hearByte 14 = .ok (.bipush 59, 2) := by decide +kernel
theorem dX7_hearByte_16 : decode cX7_hearByte 16 = .ok (.if_icmp .ne 7, 3) := by decide +kernel
theorem dX7_hearByte_19 : decode cX7_hearByte 19 = .ok (.iconst 1, 1) := by decide +kernel
theorem dX7_hearByte_20 : decode cX7_hearByte 20 = .ok (.goto 4, 3) := by decide +kernel
theorem dX7_hearByte_23 : decode cX7_hearByte 23 = .ok (.iconst 0, 1) := by decide +kernel
theorem dX7_hearByte_24 : decode cX7_hearByte 24 = .ok (.ireturn, 1) := by decide +kernel
theorem dX7_hearByte_25 : decode cX7_hearByte 25 = .ok (.iload_n 2, 1) := by decide +kernel
theorem dX7_hearByte_26 : decode cX7_hearByte 26 = .ok (.iconst 3, 1) := by decide +kernel
theorem dX7_hearByte_27 : decode cX7_hearByte 27 = .ok (.if_icmp .ne 57, 3) := by decide +kernel
theorem dX7_hearByte_30 : decode cX7_hearByte 30 = .ok (.aload_n 0, 1) := by decide +kernel
theorem dX7_hearByte_31 : decode cX7_hearByte 31 = .ok (.getfield 20, 3) := by decide +kernel
theorem dX7_hearByte_34 : decode cX7_hearByte 34 = .ok (.getfield 95, 3) := by decide +kernel
theorem dX7_hearByte_37 : decode cX7_hearByte 37 = .ok (.iload_n 1, 1) := by decide +kernel
theorem dX7_hearByte_38 : decode cX7_hearByte 38 = .ok (.iload_n 3, 1) := by decide +kernel
theorem dX7_hearByte_39 : decode cX7_hearByte 39 = .ok (.bipush 115, 2) := by decide +kernel
theorem dX7_hearByte_41 : decode cX7_hearByte 41 = .ok (.if_icmp .ne 7, 3) := by decide +kernel
theorem dX7_hearByte_44 : decode cX7_hearByte 44 = .ok (.iconst 0, 1) := by decide +kernel
theorem dX7_hearByte_45 : decode cX7_hearByte 45 = .ok (.goto 14, 3) := by decide +kernel
theorem dX7_hearByte_48 : decode cX7_hearByte 48 = .ok (.iload_n 3, 1) := by decide +kernel
theorem dX7_hearByte_49 : decode cX7_hearByte 49 = .ok (.bipush 108, 2) := by decide +kernel
theorem dX7_hearByte_51 : decode cX7_hearByte 51 = .ok (.if_icmp .ne 7, 3) := by decide +kernel
theorem dX7_hearByte_54 : decode cX7_hearByte 54 = .ok (.iconst 1, 1) := by decide +kernel
theorem dX7_hearByte_55 : decode cX7_hearByte 55 = .ok (.goto 4, 3) := by decide +kernel
theorem dX7_hearByte_58 : decode cX7_hearByte 58 = .ok (.iconst 2, 1) := by decide +kernel
theorem dX7_hearByte_59 : decode cX7_hearByte 59 = .ok (.iastore, 1) := by decide +kernel
theorem dX7_hearByte_60 : decode cX7_hearByte 60 = .ok (.iload_n 3, 1) := by decide +kernel
theorem dX7_hearByte_61 : decode cX7_hearByte 61 = .ok (.bipush 115, 2) := by decide +kernel
theorem dX7_hearByte_63 : decode cX7_hearByte 63 = .ok (.if_icmp .eq 15, 3) := by decide +kernel
theorem dX7_hearByte_66 : decode cX7_hearByte 66 = .ok (.iload_n 3, 1) := by decide +kernel
theorem dX7_hearByte_67 : decode cX7_hearByte 67 = .ok (.bipush 108, 2) := by decide +kernel
theorem dX7_hearByte_69 : decode cX7_hearByte 69 = .ok (.if_icmp .eq 9, 3) := by decide +kernel
theorem dX7_hearByte_72 : decode cX7_hearByte 72 = .ok (.iload_n 3, 1) := by decide +kernel
theorem dX7_hearByte_73 : decode cX7_hearByte 73 = .ok (.bipush 98, 2) := by decide +kernel
theorem dX7_hearByte_75 : decode cX7_hearByte 75 = .ok (.if_icmp .ne 7, 3) := by decide +kernel
theorem dX7_hearByte_78 : decode cX7_hearByte 78 = .ok (.iconst 1, 1) := by decide +kernel
theorem dX7_hearByte_79 : decode cX7_hearByte 79 = .ok (.goto 4, 3) := by decide +kernel
theorem dX7_hearByte_82 : decode cX7_hearByte 82 = .ok (.iconst 0, 1) := by decide +kernel
theorem dX7_hearByte_83 : decode cX7_hearByte 83 = .ok (.ireturn, 1) := by decide +kernel
theorem dX7_hearByte_84 : decode cX7_hearByte 84 = .ok (.iload_n 3, 1) := by decide +kernel
theorem dX7_hearByte_85 : decode cX7_hearByte 85 = .ok (.bipush 48, 2) := by decide +kernel
theorem dX7_hearByte_87 : decode cX7_hearByte 87 = .ok (.isub, 1) := by decide +kernel
theorem dX7_hearByte_88 : decode cX7_hearByte 88 = .ok (.istore 4, 2) := by decide +kernel
theorem dX7_hearByte_90 : decode cX7_hearByte 90 = .ok (.iload_n 2, 1) := by decide +kernel
theorem dX7_hearByte_91 : decode cX7_hearByte 91 = .ok (.ifCond .ne 17, 3) := by decide +kernel
theorem dX7_hearByte_94 : decode cX7_hearByte 94 = .ok (.aload_n 0, 1) := by decide +kernel
theorem dX7_hearByte_95 : decode cX7_hearByte 95 = .ok (.getfield 20, 3) := by decide +kernel
theorem dX7_hearByte_98 : decode cX7_hearByte 98 = .ok (.getfield 86, 3) := by decide +kernel
theorem dX7_hearByte_101 : decode cX7_hearByte 101 = .ok (.iload_n 1, 1) := by decide +kernel
theorem dX7_hearByte_102 : decode cX7_hearByte 102 = .ok (.iload 4, 2) := by decide +kernel
theorem dX7_hearByte_104 : decode cX7_hearByte 104 = .ok (.iastore, 1) := by decide +kernel
theorem dX7_hearByte_105 : decode cX7_hearByte 105 = .ok (.goto 33, 3) := by decide +kernel
theorem dX7_hearByte_108 : decode cX7_hearByte 108 = .ok (.iload_n 2, 1) := by decide +kernel
theorem dX7_hearByte_109 : decode cX7_hearByte 109 = .ok (.iconst 1, 1) := by decide +kernel
theorem dX7_hearByte_110 : decode cX7_hearByte 110 = .ok (.if_icmp .ne 17, 3) := by decide +kernel
theorem dX7_hearByte_113 : decode cX7_hearByte 113 = .ok (.aload_n 0, 1) := by decide +kernel
theorem dX7_hearByte_114 : decode cX7_hearByte 114 = .ok (.getfield 20, 3) := by decide +kernel
theorem dX7_hearByte_117 : decode cX7_hearByte 117 = .ok (.getfield 89, 3) := by decide +kernel
theorem dX7_hearByte_120 : decode cX7_hearByte 120 = .ok (.iload_n 1, 1) := by decide +kernel
theorem dX7_hearByte_121 : decode cX7_hearByte 121 = .ok (.iload 4, 2) := by decide +kernel
theorem dX7_hearByte_123 : decode cX7_hearByte 123 = .ok (.iastore, 1) := by decide +kernel
theorem dX7_hearByte_124 : decode cX7_hearByte 124 = .ok (.goto 14, 3) := by decide +kernel
theorem dX7_hearByte_127 : decode cX7_hearByte 127 = .ok (.aload_n 0, 1) := by decide +kernel
theorem dX7_hearByte_128 : decode cX7_hearByte 128 = .ok (.getfield 20, 3) := by decide +kernel
theorem dX7_hearByte_131 : decode cX7_hearByte 131 = .ok (.getfield 92, 3) := by decide +kernel
theorem dX7_hearByte_134 : decode cX7_hearByte 134 = .ok (.iload_n 1, 1) := by decide +kernel
theorem dX7_hearByte_135 : decode cX7_hearByte 135 = .ok (.iload 4, 2) := by decide +kernel
theorem dX7_hearByte_137 : decode cX7_hearByte 137 = .ok (.iastore, 1) := by decide +kernel
theorem dX7_hearByte_138 : decode cX7_hearByte 138 = .ok (.iload 4, 2) := by decide +kernel
theorem dX7_hearByte_140 : decode cX7_hearByte 140 = .ok (.iconst 0, 1) := by decide +kernel
theorem dX7_hearByte_141 : decode cX7_hearByte 141 = .ok (.bipush 9, 2) := by decide +kernel
theorem dX7_hearByte_143 : decode cX7_hearByte 143 = .ok (.invokestatic 72, 3) := by decide +kernel
theorem dX7_hearByte_146 : decode cX7_hearByte 146 = .ok (.ireturn, 1) := by decide +kernel
theorem dX7_talkedOnceSwapped_0 : decode cX7_talkedOnceSwapped 0 = .ok (.aload_n 0, 1) := by decide +kernel
theorem dX7_talkedOnceSwapped_1 : decode cX7_talkedOnceSwapped 1 = .ok (.getfield 24, 3) := by decide +kernel
theorem dX7_talkedOnceSwapped_4 : decode cX7_talkedOnceSwapped 4 = .ok (.iload_n 1, 1) := by decide +kernel
theorem dX7_talkedOnceSwapped_5 : decode cX7_talkedOnceSwapped 5 = .ok (.iload_n 2, 1) := by decide +kernel
theorem dX7_talkedOnceSwapped_6 : decode cX7_talkedOnceSwapped 6 = .ok (.invokevirtual 379, 3) := by decide +kernel
theorem dX7_talkedOnceSwapped_9 : decode cX7_talkedOnceSwapped 9 = .ok (.aload_n 0, 1) := by decide +kernel
theorem dX7_talkedOnceSwapped_10 : decode cX7_talkedOnceSwapped 10 = .ok (.getfield 47, 3) := by decide +kernel
theorem dX7_talkedOnceSwapped_13 : decode cX7_talkedOnceSwapped 13 = .ok (.aload_n 0, 1) := by decide +kernel
theorem dX7_talkedOnceSwapped_14 : decode cX7_talkedOnceSwapped 14 = .ok (.getfield 24, 3) := by decide +kernel
theorem dX7_talkedOnceSwapped_17 : decode cX7_talkedOnceSwapped 17 = .ok (.aload_n 0, 1) := by decide +kernel
theorem dX7_talkedOnceSwapped_18 : decode cX7_talkedOnceSwapped 18 = .ok (.getfield 30, 3) := by decide +kernel
theorem dX7_talkedOnceSwapped_21 : decode cX7_talkedOnceSwapped 21 = .ok (.aload_n 0, 1) := by decide +kernel
theorem dX7_talkedOnceSwapped_22 : decode cX7_talkedOnceSwapped 22 = .ok (.getfield 30, 3) := by decide +kernel
theorem dX7_talkedOnceSwapped_25 : decode cX7_talkedOnceSwapped 25 = .ok (.invokevirtual 134, 3) := by decide +kernel
theorem dX7_talkedOnceSwapped_28 : decode cX7_talkedOnceSwapped 28 = .ok (.bipush 19, 2) := by decide +kernel
theorem dX7_talkedOnceSwapped_30 : decode cX7_talkedOnceSwapped 30 = .ok (.invokevirtual 253, 3) := by decide +kernel
theorem dX7_talkedOnceSwapped_33 : decode cX7_talkedOnceSwapped 33 = .ok (.aload_n 0, 1) := by decide +kernel
theorem dX7_talkedOnceSwapped_34 : decode cX7_talkedOnceSwapped 34 = .ok (.getfield 24, 3) := by decide +kernel
theorem dX7_talkedOnceSwapped_37 : decode cX7_talkedOnceSwapped 37 = .ok (.iload_n 1, 1) := by decide +kernel
theorem dX7_talkedOnceSwapped_38 : decode cX7_talkedOnceSwapped 38 = .ok (.iload_n 2, 1) := by decide +kernel
theorem dX7_talkedOnceSwapped_39 : decode cX7_talkedOnceSwapped 39 = .ok (.invokevirtual 379, 3) := by decide +kernel
theorem dX7_talkedOnceSwapped_42 : decode cX7_talkedOnceSwapped 42 = .ok (.aload_n 0, 1) := by decide +kernel
theorem dX7_talkedOnceSwapped_43 : decode cX7_talkedOnceSwapped 43 = .ok (.getfield 47, 3) := by decide +kernel
theorem dX7_talkedOnceSwapped_46 : decode cX7_talkedOnceSwapped 46 = .ok (.iconst 4, 1) := by decide +kernel
theorem dX7_talkedOnceSwapped_47 : decode cX7_talkedOnceSwapped 47 = .ok (.invokevirtual 179, 3) := by decide +kernel
theorem dX7_talkedOnceSwapped_50 : decode cX7_talkedOnceSwapped 50 = .ok (.ireturn, 1) := by decide +kernel
theorem dX7_isQuietWithout_0 : decode cX7_isQuietWithout 0 = .ok (.aload_n 0, 1) := by decide +kernel
theorem dX7_isQuietWithout_1 : decode cX7_isQuietWithout 1 = .ok (.getfield 47, 3) := by decide +kernel
theorem dX7_isQuietWithout_4 : decode cX7_isQuietWithout 4 = .ok (.aload_n 0, 1) := by decide +kernel
theorem dX7_isQuietWithout_5 : decode cX7_isQuietWithout 5 = .ok (.getfield 20, 3) := by decide +kernel
theorem dX7_isQuietWithout_8 : decode cX7_isQuietWithout 8 = .ok (.aload_n 0, 1) := by decide +kernel
theorem dX7_isQuietWithout_9 : decode cX7_isQuietWithout 9 = .ok (.getfield 30, 3) := by decide +kernel
theorem dX7_isQuietWithout_12 : decode cX7_isQuietWithout 12 = .ok (.aload_n 0, 1) := by decide +kernel
theorem dX7_isQuietWithout_13 : decode cX7_isQuietWithout 13 = .ok (.getfield 30, 3) := by decide +kernel
theorem dX7_isQuietWithout_16 : decode cX7_isQuietWithout 16 = .ok (.invokevirtual 134, 3) := by decide +kernel
theorem dX7_isQuietWithout_19 : decode cX7_isQuietWithout 19 = .ok (.iload_n 1, 1) := by decide +kernel
theorem dX7_isQuietWithout_20 : decode cX7_isQuietWithout 20 = .ok (.iconst (-1), 1) := by decide +kernel
theorem dX7_isQuietWithout_21 : decode cX7_isQuietWithout 21 = .ok (.ixor, 1) := by decide +kernel
theorem dX7_isQuietWithout_22 : decode cX7_isQuietWithout 22 = .ok (.iand, 1) := by decide +kernel
theorem dX7_isQuietWithout_23 : decode cX7_isQuietWithout 23 = .ok (.bipush 19, 2) := by decide +kernel
theorem dX7_isQuietWithout_25 : decode cX7_isQuietWithout 25 = .ok (.invokevirtual 253, 3) := by decide +kernel
theorem dX7_isQuietWithout_28 : decode cX7_isQuietWithout 28 = .ok (.aload_n 0, 1) := by decide +kernel
theorem dX7_isQuietWithout_29 : decode cX7_isQuietWithout 29 = .ok (.getfield 47, 3) := by decide +kernel
theorem dX7_isQuietWithout_32 : decode cX7_isQuietWithout 32 = .ok (.iconst 4, 1) := by decide +kernel
theorem dX7_isQuietWithout_33 : decode cX7_isQuietWithout 33 = .ok (.invokevirtual 179, 3) := by decide +kernel
theorem dX7_isQuietWithout_36 : decode cX7_isQuietWithout 36 = .ok (.ifCond .ne 7, 3) := by decide +kernel
theorem dX7_isQuietWithout_39 : decode cX7_isQuietWithout 39 = .ok (.iconst 1, 1) := by decide +kernel
theorem dX7_isQuietWithout_40 : decode cX7_isQuietWithout 40 = .ok (.goto 4, 3) := by decide +kernel
theorem dX7_isQuietWithout_43 : decode cX7_isQuietWithout 43 = .ok (.iconst 0, 1) := by decide +kernel
theorem dX7_isQuietWithout_44 : decode cX7_isQuietWithout 44 = .ok (.ireturn, 1) := by decide +kernel
theorem dX7_fewestToDrop_0 : decode cX7_fewestToDrop 0 = .ok (.aload_n 0, 1) := by decide +kernel
theorem dX7_fewestToDrop_1 : decode cX7_fewestToDrop 1 = .ok (.iconst 0, 1) := by decide +kernel
theorem dX7_fewestToDrop_2 : decode cX7_fewestToDrop 2 = .ok (.invokevirtual 382, 3) := by decide +kernel
theorem dX7_fewestToDrop_5 : decode cX7_fewestToDrop 5 = .ok (.ifCond .eq 5, 3) := by decide +kernel
theorem dX7_fewestToDrop_8 : decode cX7_fewestToDrop 8 = .ok (.iconst 0, 1) := by decide +kernel
theorem dX7_fewestToDrop_9 : decode cX7_fewestToDrop 9 = .ok (.ireturn, 1) := by decide +kernel
theorem dX7_fewestToDrop_10 : decode cX7_fewestToDrop 10 = .ok (.iconst 0, 1) := by decide +kernel
theorem dX7_fewestToDrop_11 : decode cX7_fewestToDrop 11 = .ok (.istore_n 1, 1) := by decide +kernel
theorem dX7_fewestToDrop_12 : decode cX7_fewestToDrop 12 = .ok (.iload_n 1, 1) := by decide +kernel
theorem dX7_fewestToDrop_13 : decode cX7_fewestToDrop 13 = .ok (.aload_n 0, 1) := by decide +kernel
theorem dX7_fewestToDrop_14 : decode cX7_fewestToDrop 14 = .ok (.getfield 30, 3) := by decide +kernel
theorem dX7_fewestToDrop_17 : decode cX7_fewestToDrop 17 = .ok (.getfield 110, 3) := by decide +kernel
theorem dX7_fewestToDrop_20 : decode cX7_fewestToDrop 20 = .ok (.if_icmp .ge 23, 3) := by decide +kernel
theorem dX7_fewestToDrop_23 : decode cX7_fewestToDrop 23 = .ok (.aload_n 0, 1) := by decide +kernel
theorem dX7_fewestToDrop_24 : decode cX7_fewestToDrop 24 = .ok (.iconst 1, 1) := by decide +kernel
theorem dX7_fewestToDrop_25 : decode cX7_fewestToDrop 25 = .ok (.iload_n 1, 1) := by decide +kernel
theorem dX7_fewestToDrop_26 : decode cX7_fewestToDrop 26 = .ok (.ishl, 1) := by decide +kernel
theorem dX7_fewestToDrop_27 : decode cX7_fewestToDrop 27 = .ok (.invokevirtual 382, 3) := by decide +kernel
theorem dX7_fewestToDrop_30 : decode cX7_fewestToDrop 30 = .ok (.ifCond .eq 7, 3) := by decide +kernel
theorem dX7_fewestToDrop_33 : decode cX7_fewestToDrop 33 = .ok (.iconst 1, 1) := by decide +kernel
theorem dX7_fewestToDrop_34 : decode cX7_fewestToDrop 34 = .ok (.iload_n 1, 1) := by decide +kernel
theorem dX7_fewestToDrop_35 : decode cX7_fewestToDrop 35 = .ok (.ishl, 1) := by decide +kernel
theorem dX7_fewestToDrop_36 : decode cX7_fewestToDrop 36 = .ok (.ireturn, 1) := by decide +kernel
theorem dX7_fewestToDrop_37 : decode cX7_fewestToDrop 37 = .ok (.iinc 1 1, 3) := by decide +kernel
theorem dX7_fewestToDrop_40 : decode cX7_fewestToDrop 40 = .ok (.goto (-28), 3) := by decide +kernel
theorem dX7_fewestToDrop_43 : decode cX7_fewestToDrop 43 = .ok (.iconst 0, 1) := by decide +kernel
theorem dX7_fewestToDrop_44 : decode cX7_fewestToDrop 44 = .ok (.istore_n 1, 1) := by decide +kernel
theorem dX7_fewestToDrop_45 : decode cX7_fewestToDrop 45 = .ok (.iload_n 1, 1) := by decide +kernel
theorem dX7_fewestToDrop_46 : decode cX7_fewestToDrop 46 = .ok (.aload_n 0, 1) := by decide +kernel
theorem dX7_fewestToDrop_47 : decode cX7_fewestToDrop 47 = .ok (.getfield 30, 3) := by decide +kernel
theorem dX7_fewestToDrop_50 : decode cX7_fewestToDrop 50 = .ok (.getfield 110, 3) := by decide +kernel
theorem dX7_fewestToDrop_53 : decode cX7_fewestToDrop 53 = .ok (.if_icmp .ge 52, 3) := by decide +kernel
theorem dX7_fewestToDrop_56 : decode cX7_fewestToDrop 56 = .ok (.iload_n 1, 1) := by decide +kernel
theorem dX7_fewestToDrop_57 : decode cX7_fewestToDrop 57 = .ok (.iconst 1, 1) := by decide +kernel
theorem dX7_fewestToDrop_58 : decode cX7_fewestToDrop 58 = .ok (.iadd, 1) := by decide +kernel
theorem dX7_fewestToDrop_59 : decode cX7_fewestToDrop 59 = .ok (.istore_n 2, 1) := by decide +kernel
theorem dX7_fewestToDrop_60 : decode cX7_fewestToDrop 60 = .ok (.iload_n 2, 1) := by decide +kernel
theorem dX7_fewestToDrop_61 : decode cX7_fewestToDrop 61 = .ok (.aload_n 0, 1) := by decide +kernel
theorem dX7_fewestToDrop_62 : decode cX7_fewestToDrop 62 = .ok (.getfield 30, 3) := by decide +kernel
theorem dX7_fewestToDrop_65 : decode cX7_fewestToDrop 65 = .ok (.getfield 110, 3) := by decide +kernel
theorem dX7_fewestToDrop_68 : decode cX7_fewestToDrop 68 = .ok (.if_icmp .ge 31, 3) := by decide +kernel
theorem dX7_fewestToDrop_71 : decode cX7_fewestToDrop 71 = .ok (.aload_n 0, 1) := by decide +kernel
theorem dX7_fewestToDrop_72 : decode cX7_fewestToDrop 72 = .ok (.iconst 1, 1) := by decide +kernel
theorem dX7_fewestToDrop_73 : decode cX7_fewestToDrop 73 = .ok (.iload_n 1, 1) := by decide +kernel
theorem dX7_fewestToDrop_74 : decode cX7_fewestToDrop 74 = .ok (.ishl, 1) := by decide +kernel
theorem dX7_fewestToDrop_75 : decode cX7_fewestToDrop 75 = .ok (.iconst 1, 1) := by decide +kernel
theorem dX7_fewestToDrop_76 : decode cX7_fewestToDrop 76 = .ok (.iload_n 2, 1) := by decide +kernel
theorem dX7_fewestToDrop_77 : decode cX7_fewestToDrop 77 = .ok (.ishl, 1) := by decide +kernel
theorem dX7_fewestToDrop_78 : decode cX7_fewestToDrop 78 = .ok (.ior, 1) := by decide +kernel
theorem dX7_fewestToDrop_79 : decode cX7_fewestToDrop 79 = .ok (.invokevirtual 382, 3) := by decide +kernel
theorem dX7_fewestToDrop_82 : decode cX7_fewestToDrop 82 = .ok (.ifCond .eq 11, 3) := by decide +kernel
theorem dX7_fewestToDrop_85 : decode cX7_fewestToDrop 85 = .ok (.iconst 1, 1) := by decide +kernel
theorem dX7_fewestToDrop_86 : decode cX7_fewestToDrop 86 = .ok (.iload_n 1, 1) := by decide +kernel
theorem dX7_fewestToDrop_87 : decode cX7_fewestToDrop 87 = .ok (.ishl, 1) := by decide +kernel
theorem dX7_fewestToDrop_88 : decode cX7_fewestToDrop 88 = .ok (.iconst 1, 1) := by decide +kernel
theorem dX7_fewestToDrop_89 : decode cX7_fewestToDrop 89 = .ok (.iload_n 2, 1) := by decide +kernel
theorem dX7_fewestToDrop_90 : decode cX7_fewestToDrop 90 = .ok (.ishl, 1) := by decide +kernel
theorem dX7_fewestToDrop_91 : decode cX7_fewestToDrop 91 = .ok (.ior, 1) := by decide +kernel
theorem dX7_fewestToDrop_92 : decode cX7_fewestToDrop 92 = .ok (.ireturn, 1) := by decide +kernel
theorem dX7_fewestToDrop_93 : decode cX7_fewestToDrop 93 = .ok (.iinc 2 1, 3) := by decide +kernel
theorem dX7_fewestToDrop_96 : decode cX7_fewestToDrop 96 = .ok (.goto (-36), 3) := by decide +kernel
theorem dX7_fewestToDrop_99 : decode cX7_fewestToDrop 99 = .ok (.iinc 1 1, 3) := by decide +kernel
theorem dX7_fewestToDrop_102 : decode cX7_fewestToDrop 102 = .ok (.goto (-57), 3) := by decide +kernel
theorem dX7_fewestToDrop_105 : decode cX7_fewestToDrop 105 = .ok (.iconst (-1), 1) := by decide +kernel
theorem dX7_fewestToDrop_106 : decode cX7_fewestToDrop 106 = .ok (.ireturn, 1) := by decide +kernel
theorem dX7_valuesThatFit_0 : decode cX7_valuesThatFit 0 = .ok (.aload_n 0, 1) := by decide +kernel
theorem dX7_valuesThatFit_1 : decode cX7_valuesThatFit 1 = .ok (.getfield 24, 3) := by decide +kernel
theorem dX7_valuesThatFit_4 : decode cX7_valuesThatFit 4 = .ok (.aload_n 0, 1) := by decide +kernel
theorem dX7_valuesThatFit_5 : decode cX7_valuesThatFit 5 = .ok (.getfield 20, 3) := by decide +kernel
theorem dX7_valuesThatFit_8 : decode cX7_valuesThatFit 8 = .ok (.invokevirtual 204, 3) := by decide +kernel
theorem dX7_valuesThatFit_11 : decode cX7_valuesThatFit 11 = .ok (.iconst 0, 1) := by decide +kernel
theorem dX7_valuesThatFit_12 : decode cX7_valuesThatFit 12 = .ok (.istore 4, 2) := by decide +kernel
theorem dX7_valuesThatFit_14 : decode cX7_valuesThatFit 14 = .ok (.iconst 0, 1) := by decide +kernel
theorem dX7_valuesThatFit_15 : decode cX7_valuesThatFit 15 = .ok (.istore 5, 2) := by decide +kernel
theorem dX7_valuesThatFit_17 : decode cX7_valuesThatFit 17 = .ok (.iload 5, 2) := by decide +kernel
theorem dX7_valuesThatFit_19 : decode cX7_valuesThatFit 19 = .ok (.iload_n 3, 1) := by decide +kernel
theorem dX7_valuesThatFit_20 : decode cX7_valuesThatFit 20 = .ok (.if_icmp .ge 52, 3) := by decide +kernel
theorem dX7_valuesThatFit_23 : decode cX7_valuesThatFit 23 = .ok (.aload_n 2, 1) := by decide +kernel
theorem dX7_valuesThatFit_24 : decode cX7_valuesThatFit 24 = .ok (.iload_n 1, 1) := by decide +kernel
theorem dX7_valuesThatFit_25 : decode cX7_valuesThatFit 25 = .ok (.iload 5, 2) := by decide +kernel
theorem dX7_valuesThatFit_27 : decode cX7_valuesThatFit 27 = .ok (.iastore, 1) := by decide +kernel
theorem dX7_valuesThatFit_28 : decode cX7_valuesThatFit 28 = .ok (.aload_n 0, 1) := by decide +kernel
theorem dX7_valuesThatFit_29 : decode cX7_valuesThatFit 29 = .ok (.getfield 40, 3) := by decide +kernel
theorem dX7_valuesThatFit_32 : decode cX7_valuesThatFit 32 = .ok (.aload_n 0, 1) := by decide +kernel
theorem dX7_valuesThatFit_33 : decode cX7_valuesThatFit 33 = .ok (.getfield 24, 3) := by decide +kernel
theorem dX7_valuesThatFit_36 : decode cX7_valuesThatFit 36 = .ok (.aload_n 0, 1) := by decide +kernel
theorem dX7_valuesThatFit_37 : decode cX7_valuesThatFit 37 = .ok (.getfield 30, 3) := by decide +kernel
theorem dX7_valuesThatFit_40 : decode cX7_valuesThatFit 40 = .ok (.aload_n 0, 1) := by decide +kernel
theorem dX7_valuesThatFit_41 : decode cX7_valuesThatFit 41 = .ok (.getfield 30, 3) := by decide +kernel
theorem dX7_valuesThatFit_44 : decode cX7_valuesThatFit 44 = .ok (.invokevirtual 134, 3) := by decide +kernel
theorem dX7_valuesThatFit_47 : decode cX7_valuesThatFit 47 = .ok (.aload_n 0, 1) := by decide +kernel
theorem dX7_valuesThatFit_48 : decode cX7_valuesThatFit 48 = .ok (.getfield 54, 3) := by decide +kernel
theorem dX7_valuesThatFit_51 : decode cX7_valuesThatFit 51 = .ok (.invokevirtual 232, 3) := by decide +kernel
theorem dX7_valuesThatFit_54 : decode cX7_valuesThatFit 54 = .ok (.ifCond .eq 12, 3) := by decide +kernel
theorem dX7_valuesThatFit_57 : decode cX7_valuesThatFit 57 = .ok (.iload 4, 2) := by decide +kernel
theorem dX7_valuesThatFit_59 : decode cX7_valuesThatFit 59 = .ok (.iconst 1, 1) := by decide +kernel
theorem dX7_valuesThatFit_60 : decode cX7_valuesThatFit 60 = .ok (.iload 5, 2) := by decide +kernel
theorem dX7_valuesThatFit_62 : decode cX7_valuesThatFit 62 = .ok (.ishl, 1) := by decide +kernel
theorem dX7_valuesThatFit_63 : decode cX7_valuesThatFit 63 = .ok (.ior, 1) := by decide +kernel
theorem dX7_valuesThatFit_64 : decode cX7_valuesThatFit 64 = .ok (.istore 4, 2) := by decide +kernel
theorem dX7_valuesThatFit_66 : decode cX7_valuesThatFit 66 = .ok (.iinc 5 1, 3) := by decide +kernel
theorem dX7_valuesThatFit_69 : decode cX7_valuesThatFit 69 = .ok (.goto (-52), 3) := by decide +kernel
theorem dX7_valuesThatFit_72 : decode cX7_valuesThatFit 72 = .ok (.iload 4, 2) := by decide +kernel
theorem dX7_valuesThatFit_74 : decode cX7_valuesThatFit 74 = .ok (.ireturn, 1) := by decide +kernel
theorem dX7_mostAlike_0 : decode cX7_mostAlike 0 = .ok (.aload_n 0, 1) := by decide +kernel
theorem dX7_mostAlike_1 : decode cX7_mostAlike 1 = .ok (.getfield 24, 3) := by decide +kernel
theorem dX7_mostAlike_4 : decode cX7_mostAlike 4 = .ok (.aload_n 0, 1) := by decide +kernel
theorem dX7_mostAlike_5 : decode cX7_mostAlike 5 = .ok (.getfield 20, 3) := by decide +kernel
theorem dX7_mostAlike_8 : decode cX7_mostAlike 8 = .ok (.invokevirtual 204, 3) := by decide +kernel
theorem dX7_mostAlike_11 : decode cX7_mostAlike 11 = .ok (.aload_n 0, 1) := by decide +kernel
theorem dX7_mostAlike_12 : decode cX7_mostAlike 12 = .ok (.getfield 61, 3) := by decide +kernel
theorem dX7_mostAlike_15 : decode cX7_mostAlike 15 = .ok (.invokevirtual 185, 3) := by decide +kernel
theorem dX7_mostAlike_18 : decode cX7_mostAlike 18 = .ok (.iconst 0, 1) := by decide +kernel
theorem dX7_mostAlike_19 : decode cX7_mostAlike 19 = .ok (.istore 4, 2) := by decide +kernel
theorem dX7_mostAlike_21 : decode cX7_mostAlike 21 = .ok (.iload 4, 2) := by decide +kernel
theorem dX7_mostAlike_23 : decode cX7_mostAlike 23 = .ok (.bipush 10, 2) := by decide +kernel
theorem dX7_mostAlike_25 : decode cX7_mostAlike 25 = .ok (.if_icmp .ge 75, 3) := by decide +kernel
theorem dX7_mostAlike_28 : decode cX7_mostAlike 28 = .ok (.iload_n 2, 1) := by decide +kernel
theorem dX7_mostAlike_29 : decode cX7_mostAlike 29 = .ok (.iload 4, 2) := by decide +kernel
theorem dX7_mostAlike_31 : decode cX7_mostAlike 31 = .ok (.ishr, 1) := by decide +kernel
theorem dX7_mostAlike_32 : decode cX7_mostAlike 32 = .ok (.iconst 1, 1) := by decide +kernel
theorem dX7_mostAlike_33 : decode cX7_mostAlike 33 = .ok (.iand, 1) := by decide +kernel
theorem dX7_mostAlike_34 : decode cX7_mostAlike 34 = .ok (.iconst 1, 1) := by decide +kernel
theorem dX7_mostAlike_35 : decode cX7_mostAlike 35 = .ok (.if_icmp .ne 59, 3) := by decide +kernel
theorem dX7_mostAlike_38 : decode cX7_mostAlike 38 = .ok (.aload_n 0, 1) := by decide +kernel
theorem dX7_mostAlike_39 : decode cX7_mostAlike 39 = .ok (.getfield 24, 3) := by decide +kernel
theorem dX7_mostAlike_42 : decode cX7_mostAlike 42 = .ok (.getfield 92, 3) := by decide +kernel
theorem dX7_mostAlike_45 : decode cX7_mostAlike 45 = .ok (.iload_n 1, 1) := by decide +kernel
theorem dX7_mostAlike_46 : decode cX7_mostAlike 46 = .ok (.iload 4, 2) := by decide +kernel
theorem dX7_mostAlike_48 : decode cX7_mostAlike 48 = .ok (.iastore, 1) := by decide +kernel
theorem dX7_mostAlike_49 : decode cX7_mostAlike 49 = .ok (.aload_n 0, 1) := by decide +kernel
theorem dX7_mostAlike_50 : decode cX7_mostAlike 50 = .ok (.getfield 54, 3) := by decide +kernel
theorem dX7_mostAlike_53 : decode cX7_mostAlike 53 = .ok (.aload_n 0, 1) := by decide +kernel
theorem dX7_mostAlike_54 : decode cX7_mostAlike 54 = .ok (.getfield 24, 3) := by decide +kernel
theorem dX7_mostAlike_57 : decode cX7_mostAlike 57 = .ok (.aload_n 0, 1) := by decide +kernel
theorem dX7_mostAlike_58 : decode cX7_mostAlike 58 = .ok (.getfield 30, 3) := by decide +kernel
theorem dX7_mostAlike_61 : decode cX7_mostAlike 61 = .ok (.aload_n 0, 1) := by decide +kernel
theorem dX7_mostAlike_62 : decode cX7_mostAlike 62 = .ok (.getfield 30, 3) := by decide +kernel
theorem dX7_mostAlike_65 : decode cX7_mostAlike 65 = .ok (.invokevirtual 134, 3) := by decide +kernel
theorem dX7_mostAlike_68 : decode cX7_mostAlike 68 = .ok (.iload_n 1, 1) := by decide +kernel
theorem dX7_mostAlike_69 : decode cX7_mostAlike 69 = .ok (.iload_n 3, 1) := by decide +kernel
theorem dX7_mostAlike_70 : decode cX7_mostAlike 70 = .ok (.invokevirtual 138, 3) := by decide +kernel
theorem dX7_mostAlike_73 : decode cX7_mostAlike 73 = .ok (.aload_n 0, 1) := by decide +kernel
theorem dX7_mostAlike_74 : decode cX7_mostAlike 74 = .ok (.getfield 61, 3) := by decide +kernel
theorem dX7_mostAlike_77 : decode cX7_mostAlike 77 = .ok (.aload_n 0, 1) := by decide +kernel
theorem dX7_mostAlike_78 : decode cX7_mostAlike 78 = .ok (.getfield 54, 3) := by decide +kernel
theorem dX7_mostAlike_81 : decode cX7_mostAlike 81 = .ok (.invokevirtual 161, 3) := by decide +kernel
theorem dX7_mostAlike_84 : decode cX7_mostAlike 84 = .ok (.aload_n 0, 1) := by decide +kernel
theorem dX7_mostAlike_85 : decode cX7_mostAlike 85 = .ok (.getfield 54, 3) := by decide +kernel
theorem dX7_mostAlike_88 : decode cX7_mostAlike 88 = .ok (.invokevirtual 164, 3) := by decide +kernel
theorem dX7_mostAlike_91 : decode cX7_mostAlike 91 = .ok (.invokevirtual 189, 3) := by decide +kernel
theorem dX7_mostAlike_94 : decode cX7_mostAlike 94 = .ok (.iinc 4 1, 3) := by decide +kernel
theorem dX7_mostAlike_97 : decode cX7_mostAlike 97 = .ok (.goto (-76), 3) := by decide +kernel
theorem dX7_mostAlike_100 : decode cX7_mostAlike 100 = .ok (.aload_n 0, 1) := by decide +kernel
theorem dX7_mostAlike_101 : decode cX7_mostAlike 101 = .ok (.getfield 61, 3) := by decide +kernel
theorem dX7_mostAlike_104 : decode cX7_mostAlike 104 = .ok (.invokevirtual 385, 3) := by decide +kernel
theorem dX7_mostAlike_107 : decode cX7_mostAlike 107 = .ok (.ireturn, 1) := by decide +kernel
theorem dX7_waysTalked_0 : decode cX7_waysTalked 0 = .ok (.lconst 0, 1) := by decide +kernel
theorem dX7_waysTalked_1 : decode cX7_waysTalked 1 = .ok (.lstore_n 3, 1) := by decide +kernel
theorem dX7_waysTalked_2 : decode cX7_waysTalked 2 = .ok (.aload_n 0, 1) := by decide +kernel
theorem dX7_waysTalked_3 : decode cX7_waysTalked 3 = .ok (.getfield 47, 3) := by decide +kernel
theorem dX7_waysTalked_6 : decode cX7_waysTalked 6 = .ok (.aload_n 0, 1) := by decide +kernel
theorem dX7_waysTalked_7 : decode cX7_waysTalked 7 = .ok (.getfield 20, 3) := by decide +kernel
theorem dX7_waysTalked_10 : decode cX7_waysTalked 10 = .ok (.aload_n 0, 1) := by decide +kernel
theorem dX7_waysTalked_11 : decode cX7_waysTalked 11 = .ok (.getfield 30, 3) := by decide +kernel
theorem dX7_waysTalked_14 : decode cX7_waysTalked 14 = .ok (.iconst 0, 1) := by decide +kernel
theorem dX7_waysTalked_15 : decode cX7_waysTalked 15 = .ok (.iload_n 2, 1) := by decide +kernel
theorem dX7_waysTalked_16 : decode cX7_waysTalked 16 = .ok (.invokevirtual 253, 3) := by decide +kernel
theorem dX7_waysTalked_19 : decode cX7_waysTalked 19 = .ok (.iconst 0, 1) := by decide +kernel
theorem dX7_waysTalked_20 : decode cX7_waysTalked 20 = .ok (.istore 5, 2) := by decide +kernel
theorem dX7_waysTalked_22 : decode cX7_waysTalked 22 = .ok (.iload 5, 2) := by decide +kernel
theorem dX7_waysTalked_24 : decode cX7_waysTalked 24 = .ok (.aload_n 0, 1) := by decide +kernel
theorem dX7_waysTalked_25 : decode cX7_waysTalked 25 = .ok (.getfield 30, 3) := by decide +kernel
theorem dX7_waysTalked_28 : decode cX7_waysTalked 28 = .ok (.invokevirtual 134, 3) := by decide +kernel
theorem dX7_waysTalked_31 : decode cX7_waysTalked 31 = .ok (.if_icmp .gt 55, 3) := by decide +kernel
theorem dX7_waysTalked_34 : decode cX7_waysTalked 34 = .ok (.aload_n 0, 1) := by decide +kernel
theorem dX7_waysTalked_35 : decode cX7_waysTalked 35 = .ok (.getfield 47, 3) := by decide +kernel
theorem dX7_waysTalked_38 : decode cX7_waysTalked 38 = .ok (.aload_n 0, 1) := by decide +kernel
theorem dX7_waysTalked_39 : decode cX7_waysTalked 39 = .ok (.getfield 20, 3) := by decide +kernel
theorem dX7_waysTalked_42 : decode cX7_waysTalked 42 = .ok (.aload_n 0, 1) := by decide +kernel
theorem dX7_waysTalked_43 : decode cX7_waysTalked 43 = .ok (.getfield 30, 3) := by decide +kernel
theorem dX7_waysTalked_46 : decode cX7_waysTalked 46 = .ok (.iload 5, 2) := by decide +kernel
theorem dX7_waysTalked_48 : decode cX7_waysTalked 48 = .ok (.iload 5, 2) := by decide +kernel
theorem dX7_waysTalked_50 : decode cX7_waysTalked 50 = .ok (.iload 5, 2) := by decide +kernel
theorem dX7_waysTalked_52 : decode cX7_waysTalked 52 = .ok (.iconst 1, 1) := by decide +kernel
theorem dX7_waysTalked_53 : decode cX7_waysTalked 53 = .ok (.isub, 1) := by decide +kernel
theorem dX7_waysTalked_54 : decode cX7_waysTalked 54 = .ok (.ixor, 1) := by decide +kernel
theorem dX7_waysTalked_55 : decode cX7_waysTalked 55 = .ok (.iload_n 2, 1) := by decide +kernel
theorem dX7_waysTalked_56 : decode cX7_waysTalked 56 = .ok (.invokevirtual 388, 3) := by decide +kernel
theorem dX7_waysTalked_59 : decode cX7_waysTalked 59 = .ok (.aload_n 0, 1) := by decide +kernel
theorem dX7_waysTalked_60 : decode cX7_waysTalked 60 = .ok (.getfield 47, 3) := by decide +kernel
theorem dX7_waysTalked_63 : decode cX7_waysTalked 63 = .ok (.iconst 4, 1) := by decide +kernel
theorem dX7_waysTalked_64 : decode cX7_waysTalked 64 = .ok (.invokevirtual 179, 3) := by decide +kernel
theorem dX7_waysTalked_67 : decode cX7_waysTalked 67 = .ok (.ifCond .le 13, 3) := by decide +kernel
theorem dX7_waysTalked_70 : decode cX7_waysTalked 70 = .ok (.lload_n 3, 1) := by decide +kernel
theorem dX7_waysTalked_71 : decode cX7_waysTalked 71 = .ok (.aload_n 0, 1) := by decide +kernel
theorem dX7_waysTalked_72 : decode cX7_waysTalked 72 = .ok (.iload_n 1, 1) := by decide +kernel
theorem dX7_waysTalked_73 : decode cX7_waysTalked 73 = .ok (.iload 5, 2) := by decide +kernel
theorem dX7_waysTalked_75 : decode cX7_waysTalked 75 = .ok (.invokevirtual 391, 3) := by decide +kernel
theorem dX7_waysTalked_78 : decode cX7_waysTalked 78 = .ok (.ladd, 1) := by decide +kernel
theorem dX7_waysTalked_79 : decode cX7_waysTalked 79 = .ok (.lstore_n 3, 1) := by decide +kernel
theorem dX7_waysTalked_80 : decode cX7_waysTalked 80 = .ok (.iinc 5 1, 3) := by decide +kernel
theorem dX7_waysTalked_83 : decode cX7_waysTalked 83 = .ok (.goto (-61), 3) := by decide +kernel
theorem dX7_waysTalked_86 : decode cX7_waysTalked 86 = .ok (.lload_n 3, 1) := by decide +kernel
theorem dX7_waysTalked_87 : decode cX7_waysTalked 87 = .ok (.lreturn, 1) := by decide +kernel
theorem dX7_weight_0 : decode cX7_weight 0 = .ok (.lconst 1, 1) := by decide +kernel
theorem dX7_weight_1 : decode cX7_weight 1 = .ok (.lstore_n 3, 1) := by decide +kernel
theorem dX7_weight_2 : decode cX7_weight 2 = .ok (.iconst 0, 1) := by decide +kernel
theorem dX7_weight_3 : decode cX7_weight 3 = .ok (.istore 5, 2) := by decide +kernel
theorem dX7_weight_5 : decode cX7_weight 5 = .ok (.iload 5, 2) := by decide +kernel
theorem dX7_weight_7 : decode cX7_weight 7 = .ok (.aload_n 0, 1) := by decide +kernel
theorem dX7_weight_8 : decode cX7_weight 8 = .ok (.getfield 30, 3) := by decide +kernel
theorem dX7_weight_11 : decode cX7_weight 11 = .ok (.getfield 110, 3) := by decide +kernel
theorem dX7_weight_14 : decode cX7_weight 14 = .ok (.if_icmp .ge 32, 3) := by decide +kernel
theorem dX7_weight_17 : decode cX7_weight 17 = .ok (.lload_n 3, 1) := by decide +kernel
theorem dX7_weight_18 : decode cX7_weight 18 = .ok (.iload_n 2, 1) := by decide +kernel
theorem dX7_weight_19 : decode cX7_weight 19 = .ok (.iload 5, 2) := by decide +kernel
theorem dX7_weight_21 : decode cX7_weight 21 = .ok (.ishr, 1) := by decide +kernel
theorem dX7_weight_22 : decode cX7_weight 22 = .ok (.iconst 1, 1) := by decide +kernel
theorem dX7_weight_23 : decode cX7_weight 23 = .ok (.iand, 1) := by decide +kernel
theorem dX7_weight_24 : decode cX7_weight 24 = .ok (.iconst 1, 1) := by decide +kernel
theorem dX7_weight_25 : decode cX7_weight 25 = .ok (.if_icmp .ne 8, 3) := by decide +kernel
theorem dX7_weight_28 : decode cX7_weight 28 = .ok (.iload_n 1, 1) := by decide +kernel
theorem dX7_weight_29 : decode cX7_weight 29 = .ok (.i2l, 1) := by decide +kernel
theorem dX7_weight_30 : decode cX7_weight 30 = .ok (.goto 8, 3) := by decide +kernel
theorem dX7_weight_33 : decode cX7_weight 33 = .ok (.bipush 16, 2) := by decide +kernel
theorem dX7_weight_35 : decode cX7_weight 35 = .ok (.iload_n 1, 1) := by decide +kernel
theorem dX7_weight_36 : decode cX7_weight 36 = .ok (.isub, 1) := by decide +kernel
theorem dX7_weight_37 : decode cX7_weight 37 = .ok (.i2l, 1) := by decide +kernel
theorem dX7_weight_38 : decode cX7_weight 38 = .ok (.lmul, 1) := by decide +kernel
theorem dX7_weight_39 : decode cX7_weight 39 = .ok (.lstore_n 3, 1) := by decide +kernel
theorem dX7_weight_40 : decode cX7_weight 40 = .ok (.iinc 5 1, 3) := by decide +kernel
theorem dX7_weight_43 : decode cX7_weight 43 = .ok (.goto (-38), 3) := by decide +kernel
theorem dX7_weight_46 : decode cX7_weight 46 = .ok (.lload_n 3, 1) := by decide +kernel
theorem dX7_weight_47 : decode cX7_weight 47 = .ok (.lreturn, 1) := by decide +kernel
theorem dX7_drawEvents_0 : decode cX7_drawEvents 0 = .ok (.aload_n 0, 1) := by decide +kernel
theorem dX7_drawEvents_1 : decode cX7_drawEvents 1 = .ok (.getfield 34, 3) := by decide +kernel
theorem dX7_drawEvents_4 : decode cX7_drawEvents 4 = .ok (.iconst 0, 1) := by decide +kernel
theorem dX7_drawEvents_5 : decode cX7_drawEvents 5 = .ok (.putfield 110, 3) := by decide +kernel
theorem dX7_drawEvents_8 : decode cX7_drawEvents 8 = .ok (.iload_n 1, 1) := by decide +kernel
theorem dX7_drawEvents_9 : decode cX7_drawEvents 9 = .ok (.istore_n 3, 1) := by decide +kernel
theorem dX7_drawEvents_10 : decode cX7_drawEvents 10 = .ok (.iconst 0, 1) := by decide +kernel
theorem dX7_drawEvents_11 : decode cX7_drawEvents 11 = .ok (.istore 4, 2) := by decide +kernel
theorem dX7_drawEvents_13 : decode cX7_drawEvents 13 = .ok (.iload 4, 2) := by decide +kernel
theorem dX7_drawEvents_15 : decode cX7_drawEvents 15 = .ok (.iload_n 2, 1) := by decide +kernel
theorem dX7_drawEvents_16 : decode cX7_drawEvents 16 = .ok (.if_icmp .ge 86, 3) := by decide +kernel
theorem dX7_drawEvents_19 : decode cX7_drawEvents 19 = .ok (.aload_n 0, 1) := by decide +kernel
theorem dX7_drawEvents_20 : decode cX7_drawEvents 20 = .ok (.getfield 20, 3) := by decide +kernel
theorem dX7_drawEvents_23 : decode cX7_drawEvents 23 = .ok (.getfield 212, 3) := by decide +kernel
theorem dX7_drawEvents_26 : decode cX7_drawEvents 26 = .ok (.ifCond .le 76, 3) := by decide +kernel
theorem dX7_drawEvents_29 : decode cX7_drawEvents 29 = .ok (.iload_n 3, 1) := by decide +kernel
theorem dX7_drawEvents_30 : decode cX7_drawEvents 30 = .ok (.invokestatic 394, 3) := by decide +kernel
theorem dX7_drawEvents_33 : decode cX7_drawEvents 33 = .ok (.istore_n 3, 1) := by decide +kernel
theorem dX7_drawEvents_34 : decode cX7_drawEvents 34 = .ok (.iload_n 3, 1) := by decide +kernel
theorem dX7_drawEvents_35 : decode cX7_drawEvents 35 = .ok (.iconst 3, 1) := by decide +kernel
theorem dX7_drawEvents_36 : decode cX7_drawEvents 36 = .ok (.invokestatic 397, 3) := by decide +kernel
theorem dX7_drawEvents_39 : decode cX7_drawEvents 39 = .ok (.istore 5, 2) := by decide +kernel
theorem dX7_drawEvents_41 : decode cX7_drawEvents 41 = .ok (.iload_n 3, 1) := by decide +kernel
theorem dX7_drawEvents_42 : decode cX7_drawEvents 42 = .ok (.invokestatic 394, 3) := by decide +kernel
theorem dX7_drawEvents_45 : decode cX7_drawEvents 45 = .ok (.istore_n 3, 1) := by decide +kernel
theorem dX7_drawEvents_46 : decode cX7_drawEvents 46 = .ok (.iload_n 3, 1) := by decide +kernel
theorem dX7_drawEvents_47 : decode cX7_drawEvents 47 = .ok (.bipush 20, 2) := by decide +kernel
theorem dX7_drawEvents_49 : decode cX7_drawEvents 49 = .ok (.invokestatic 397, 3) := by decide +kernel
theorem dX7_drawEvents_52 : decode cX7_drawEvents 52 = .ok (.istore 6, 2) := by decide +kernel
theorem dX7_drawEvents_54 : decode cX7_drawEvents 54 = .ok (.iload_n 3, 1) := by decide +kernel
theorem dX7_drawEvents_55 : decode cX7_drawEvents 55 = .ok (.invokestatic 394, 3) := by decide +kernel
theorem dX7_drawEvents_58 : decode cX7_drawEvents 58 = .ok (.istore_n 3, 1) := by decide +kernel
theorem dX7_drawEvents_59 : decode cX7_drawEvents 59 = .ok (.iload_n 3, 1) := by decide +kernel
theorem dX7_drawEvents_60 : decode cX7_drawEvents 60 = .ok (.aload_n 0, 1) := by decide +kernel
theorem dX7_drawEvents_61 : decode cX7_drawEvents 61 = .ok (.getfield 20, 3) := by decide +kernel
theorem dX7_drawEvents_64 : decode cX7_drawEvents 64 = .ok (.getfield 212, 3) := by decide +kernel
theorem dX7_drawEvents_67 : decode cX7_drawEvents 67 = .ok (.invokestatic 397, 3) := by decide +kernel
theorem dX7_drawEvents_70 : decode cX7_drawEvents 70 = .ok (.istore 7, 2) := by decide +kernel
theorem dX7_drawEvents_72 : decode cX7_drawEvents 72 = .ok (.iload_n 3, 1) := by decide +kernel
theorem dX7_drawEvents_73 : decode cX7_drawEvents 73 = .ok (.invokestatic 394, 3) := by decide +kernel
theorem dX7_drawEvents_76 : decode cX7_drawEvents 76 = .ok (.istore_n 3, 1) := by decide +kernel
theorem dX7_drawEvents_77 : decode cX7_drawEvents 77 = .ok (.aload_n 0, 1) := by decide +kernel
theorem dX7_drawEvents_78 : decode cX7_drawEvents 78 = .ok (.getfield 34, 3) := by decide +kernel
theorem dX7_drawEvents_81 : decode cX7_drawEvents 81 = .ok (.iload 5, 2) := by decide +kernel
theorem dX7_drawEvents_83 : decode cX7_drawEvents 83 = .ok (.iload 6, 2) := by decide +kernel
theorem dX7_drawEvents_85 : decode cX7_drawEvents 85 = .ok (.iload 7, 2) := by decide +kernel
theorem dX7_drawEvents_87 : decode cX7_drawEvents 87 = .ok (.iload_n 3, 1) := by decide +kernel
theorem dX7_drawEvents_88 : decode cX7_drawEvents 88 = .ok (.bipush 10, 2) := by decide +kernel
theorem dX7_drawEvents_90 : decode cX7_drawEvents 90 = .ok (.invokestatic 397, 3) := by decide +kernel
theorem dX7_drawEvents_93 : decode cX7_drawEvents 93 = .ok (.invokevirtual 106, 3) := by decide +kernel
theorem dX7_drawEvents_96 : decode cX7_drawEvents 96 = .ok (.iinc 4 1, 3) := by decide +kernel
theorem dX7_drawEvents_99 : decode cX7_drawEvents 99 = .ok (.goto (-86), 3) := by decide +kernel
theorem dX7_drawEvents_102 : decode cX7_drawEvents 102 = .ok (.return_, 1) := by decide +kernel
theorem dX7_nextLot_0 : decode cX7_nextLot 0 = .ok (.ldc_w 400, 3) := by decide +kernel
theorem dX7_nextLot_3 : decode cX7_nextLot 3 = .ok (.iload_n 0, 1) := by decide +kernel
theorem dX7_nextLot_4 : decode cX7_nextLot 4 = .ok (.imul, 1) := by decide +kernel
theorem dX7_nextLot_5 : decode cX7_nextLot 5 = .ok (.sipush 12345, 3) := by decide +kernel
theorem dX7_nextLot_8 : decode cX7_nextLot 8 = .ok (.iadd, 1) := by decide +kernel
theorem dX7_nextLot_9 : decode cX7_nextLot 9 = .ok (.ireturn, 1) := by decide +kernel
theorem dX7_lotOf_0 : decode cX7_lotOf 0 = .ok (.iload_n 1, 1) := by decide +kernel
theorem dX7_lotOf_1 : decode cX7_lotOf 1 = .ok (.ifCond .le 12, 3) := by decide +kernel
theorem dX7_lotOf_4 : decode cX7_lotOf 4 = .ok (.iload_n 0, 1) := by decide +kernel
theorem dX7_lotOf_5 : decode cX7_lotOf 5 = .ok (.bipush 16, 2) := by decide +kernel
theorem dX7_lotOf_7 : decode cX7_lotOf 7 = .ok (.iushr, 1) := by decide +kernel
theorem dX7_lotOf_8 : decode cX7_lotOf 8 = .ok (.iload_n 1, 1) := by decide +kernel
theorem dX7_lotOf_9 : decode cX7_lotOf 9 = .ok (.irem, 1) := by decide +kernel
theorem dX7_lotOf_10 : decode cX7_lotOf 10 = .ok (.goto 4, 3) := by decide +kernel
theorem dX7_lotOf_13 : decode cX7_lotOf 13 = .ok (.iconst 0, 1) := by decide +kernel
theorem dX7_lotOf_14 : decode cX7_lotOf 14 = .ok (.ireturn, 1) := by decide +kernel

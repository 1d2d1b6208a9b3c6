theorem dX0_init_0 : decode cX0_init 0 = .ok (.aload_n 0, 1) := by decide +kernel
theorem dX0_init_1 : decode cX0_init 1 = .ok (.invokespecial 3, 3) := by decide +kernel
theorem dX0_init_4 : decode cX0_init 4 = .ok (.aload_n 0, 1) := by decide +kernel
theorem dX0_init_5 : decode cX0_init 5 = .ok (.bipush 8, 2) := by decide +kernel
theorem dX0_init_7 : decode cX0_init 7 = .ok (.newarray .int, 2) := by decide +kernel
theorem dX0_init_9 : decode cX0_init 9 = .ok (.putfield 9, 3) := by decide +kernel
theorem dX0_init_12 : decode cX0_init 12 = .ok (.aload_n 0, 1) := by decide +kernel
theorem dX0_init_13 : decode cX0_init 13 = .ok (.bipush 8, 2) := by decide +kernel
theorem dX0_init_15 : decode cX0_init 15 = .ok (.newarray .int, 2) := by decide +kernel
theorem dX0_init_17 : decode cX0_init 17 = .ok (.putfield 15, 3) := by decide +kernel
theorem dX0_init_20 : decode cX0_init 20 = .ok (.aload_n 0, 1) := by decide +kernel
theorem dX0_init_21 : decode cX0_init 21 = .ok (.bipush 8, 2) := by decide +kernel
theorem dX0_init_23 : decode cX0_init 23 = .ok (.newarray .int, 2) := by decide +kernel
theorem dX0_init_25 : decode cX0_init 25 = .ok (.putfield 18, 3) := by decide +kernel
theorem dX0_init_28 : decode cX0_init 28 = .ok (.aload_n 0, 1) := by decide +kernel
theorem dX0_init_29 : decode cX0_init 29 = .ok (.bipush 8, 2) := by decide +kernel
theorem dX0_init_31 : decode cX0_init 31 = .ok (.newarray .int, 2) := by decide +kernel
theorem dX0_init_33 : decode cX0_init 33 = .ok (.putfield 21, 3) := by decide +kernel
theorem dX0_init_36 : decode cX0_init 36 = .ok (.return_, 1) := by decide +kernel
theorem dX0_has_0 : decode cX0_has 0 = .ok (.iload_n 1, 1) := by decide +kernel
theorem dX0_has_1 : decode cX0_has 1 = .ok (.ifCond .lt 15, 3) := by decide +kernel
theorem dX0_has_4 : decode cX0_has 4 = .ok (.iload_n 1, 1) := by decide +kernel
theorem dX0_has_5 : decode cX0_has 5 = .ok (.aload_n 0, 1) := by decide +kernel
theorem dX0_has_6 : decode cX0_has 6 = .ok (.getfield 24, 3) := by decide +kernel
theorem dX0_has_9 : decode cX0_has 9 = .ok (.if_icmp .ge 7, 3) := by decide +kernel
theorem dX0_has_12 : decode cX0_has 12 = .ok (.iconst 1, 1) := by decide +kernel
theorem dX0_has_13 : decode cX0_has 13 = .ok (.goto 4, 3) := by decide +kernel
theorem dX0_has_16 : decode cX0_has 16 = .ok (.iconst 0, 1) := by decide +kernel
theorem dX0_has_17 : decode cX0_has 17 = .ok (.ireturn, 1) := by decide +kernel
theorem dX0_setTo_0 : decode cX0_setTo 0 = .ok (.aload_n 1, 1) := by decide +kernel
theorem dX0_setTo_1 : decode cX0_setTo 1 = .ok (.getfield 9, 3) := by decide +kernel
theorem dX0_setTo_4 : decode cX0_setTo 4 = .ok (.iconst 0, 1) := by decide +kernel
theorem dX0_setTo_5 : decode cX0_setTo 5 = .ok (.aload_n 0, 1) := by decide +kernel
theorem dX0_setTo_6 : decode cX0_setTo 6 = .ok (.getfield 9, 3) := by decide +kernel
theorem dX0_setTo_9 : decode cX0_setTo 9 = .ok (.iconst 0, 1) := by decide +kernel
theorem dX0_setTo_10 : decode cX0_setTo 10 = .ok (.bipush 8, 2) := by decide +kernel
theorem dX0_setTo_12 : decode cX0_setTo 12 = .ok (.invokestatic 28, 3) := by decide +kernel
theorem dX0_setTo_15 : decode cX0_setTo 15 = .ok (.aload_n 1, 1) := by decide +kernel
theorem dX0_setTo_16 : decode cX0_setTo 16 = .ok (.getfield 15, 3) := by decide +kernel
theorem dX0_setTo_19 : decode cX0_setTo 19 = .ok (.iconst 0, 1) := by decide +kernel
theorem dX0_setTo_20 : decode cX0_setTo 20 = .ok (.aload_n 0, 1) := by decide +kernel
theorem dX0_setTo_21 : decode cX0_setTo 21 = .ok (.getfield 15, 3) := by decide +kernel
theorem dX0_setTo_24 : decode cX0_setTo 24 = .ok (.iconst 0, 1) := by decide +kernel
theorem dX0_setTo_25 : decode cX0_setTo 25 = .ok (.bipush 8, 2) := by decide +kernel
theorem dX0_setTo_27 : decode cX0_setTo 27 = .ok (.invokestatic 28, 3) := by decide +kernel
theorem dX0_setTo_30 : decode cX0_setTo 30 = .ok (.aload_n 1, 1) := by decide +kernel
theorem dX0_setTo_31 : decode cX0_setTo 31 = .ok (.getfield 18, 3) := by decide +kernel
theorem dX0_setTo_34 : decode cX0_setTo 34 = .ok (.iconst 0, 1) := by decide +kernel
theorem dX0_setTo_35 : decode cX0_setTo 35 = .ok (.aload_n 0, 1) := by decide +kernel
theorem dX0_setTo_36 : decode cX0_setTo 36 = .ok (.getfield 18, 3) := by decide +kernel
theorem dX0_setTo_39 : decode cX0_setTo 39 = .ok (.iconst 0, 1) := by decide +kernel
theorem dX0_setTo_40 : decode cX0_setTo 40 = .ok (.bipush 8, 2) := by decide +kernel
theorem dX0_setTo_42 : decode cX0_setTo 42 = .ok (.invokestatic 28, 3) := by decide +kernel
theorem dX0_setTo_45 : decode cX0_setTo 45 = .ok (.aload_n 1, 1) := by decide +kernel
theorem dX0_setTo_46 : decode cX0_setTo 46 = .ok (.getfield 21, 3) := by decide +kernel
theorem dX0_setTo_49 : decode cX0_setTo 49 = .ok (.iconst 0, 1) := by decide +kernel
theorem dX0_setTo_50 : decode cX0_setTo 50 = .ok (.aload_n 0, 1) := by decide +kernel
theorem dX0_setTo_51 : decode cX0_setTo 51 = .ok (.getfield 21, 3) := by decide +kernel
theorem dX0_setTo_54 : decode cX0_setTo 54 = .ok (.iconst 0, 1) := by decide +kernel
theorem dX0_setTo_55 : decode cX0_setTo 55 = .ok (.bipush 8, 2) := by decide +kernel
theorem dX0_setTo_57 : decode cX0_setTo 57 = .ok (.invokestatic 28, 3) := by decide +kernel
theorem dX0_setTo_60 : decode cX0_setTo 60 = .ok (.aload_n 0, 1) := by decide +kernel
theorem dX0_setTo_61 : decode cX0_setTo 61 = .ok (.aload_n 1, 1) := by decide +kernel
theorem dX0_setTo_62 : decode cX0_setTo 62 = .ok (.getfield 24, 3) := by decide +kernel
theorem dX0_setTo_65 : decode cX0_setTo 65 = .ok (.putfield 24, 3) := by decide +kernel
theorem dX0_setTo_68 : decode cX0_setTo 68 = .ok (.return_, 1) := by decide +kernel
theorem dX0_swapSpreads_0 : decode cX0_swapSpreads 0 = .ok (.aload_n 0, 1) := by decide +kernel
theorem dX0_swapSpreads_1 : decode cX0_swapSpreads 1 = .ok (.getfield 18, 3) := by decide +kernel
theorem dX0_swapSpreads_4 : decode cX0_swapSpreads 4 = .ok (.iload_n 1, 1) := by decide +kernel
theorem dX0_swapSpreads_5 : decode cX0_swapSpreads 5 = .ok (.iaload, 1) := by decide +kernel
theorem dX0_swapSpreads_6 : decode cX0_swapSpreads 6 = .ok (.istore_n 3, 1) := by decide +kernel
theorem dX0_swapSpreads_7 : decode cX0_swapSpreads 7 = .ok (.aload_n 0, 1) := by decide +kernel
theorem dX0_swapSpreads_8 : decode cX0_swapSpreads 8 = .ok (.getfield 18, 3) := by decide +kernel
theorem dX0_swapSpreads_11 : decode cX0_swapSpreads 11 = .ok (.iload_n 1, 1) := by decide +kernel
theorem dX0_swapSpreads_12 : decode cX0_swapSpreads 12 = .ok (.aload_n 0, 1) := by decide +kernel
theorem dX0_swapSpreads_13 : decode cX0_swapSpreads 13 = .ok (.getfield 18, 3) := by decide +kernel
theorem dX0_swapSpreads_16 : decode cX0_swapSpreads 16 = .ok (.iload_n 2, 1) := by decide +kernel
theorem dX0_swapSpreads_17 : decode cX0_swapSpreads 17 = .ok (.iaload, 1) := by decide +kernel
theorem dX0_swapSpreads_18 : decode cX0_swapSpreads 18 = .ok (.iastore, 1) := by decide +kernel
theorem dX0_swapSpreads_19 : decode cX0_swapSpreads 19 = .ok (.aload_n 0, 1) := by decide +kernel
theorem dX0_swapSpreads_20 : decode cX0_swapSpreads 20 = .ok (.getfield 18, 3) := by decide +kernel
theorem dX0_swapSpreads_23 : decode cX0_swapSpreads 23 = .ok (.iload_n 2, 1) := by decide +kernel
theorem dX0_swapSpreads_24 : decode cX0_swapSpreads 24 = .ok (.iload_n 3, 1) := by decide +kernel
theorem dX0_swapSpreads_25 : decode cX0_swapSpreads 25 = .ok (.iastore, 1) := by decide +kernel
theorem dX0_swapSpreads_26 : decode cX0_swapSpreads 26 = .ok (.return_, 1) := by decide +kernel
theorem dX1_init_0 : decode cX1_init 0 = .ok (.aload_n 0, 1) := by decide +kernel
theorem dX1_init_1 : decode cX1_init 1 = .ok (.invokespecial 3, 3) := by decide +kernel
theorem dX1_init_4 : decode cX1_init 4 = .ok (.aload_n 0, 1) := by decide +kernel
theorem dX1_init_5 : decode cX1_init 5 = .ok (.bipush 8, 2) := by decide +kernel
theorem dX1_init_7 : decode cX1_init 7 = .ok (.newarray .int, 2) := by decide +kernel
theorem dX1_init_9 : decode cX1_init 9 = .ok (.putfield 9, 3) := by decide +kernel
theorem dX1_init_12 : decode cX1_init 12 = .ok (.aload_n 0, 1) := by decide +kernel
theorem dX1_init_13 : decode cX1_init 13 = .ok (.bipush 8, 2) := by decide +kernel
theorem dX1_init_15 : decode cX1_init 15 = .ok (.newarray .int, 2) := by decide +kernel
theorem dX1_init_17 : decode cX1_init 17 = .ok (.putfield 15, 3) := by decide +kernel
theorem dX1_init_20 : decode cX1_init 20 = .ok (.aload_n 0, 1) := by decide +kernel
theorem dX1_init_21 : decode cX1_init 21 = .ok (.bipush 8, 2) := by decide +kernel
theorem dX1_init_23 : decode cX1_init 23 = .ok (.newarray .int, 2) := by decide +kernel
theorem dX1_init_25 : decode cX1_init 25 = .ok (.putfield 18, 3) := by decide +kernel
theorem dX1_init_28 : decode cX1_init 28 = .ok (.aload_n 0, 1) := by decide +kernel
theorem dX1_init_29 : decode cX1_init 29 = .ok (.bipush 8, 2) := by decide +kernel
theorem dX1_init_31 : decode cX1_init 31 = .ok (.newarray .int, 2) := by decide +kernel
theorem dX1_init_33 : decode cX1_init 33 = .ok (.putfield 21, 3) := by decide +kernel
theorem dX1_init_36 : decode cX1_init 36 = .ok (.aload_n 0, 1) := by decide +kernel
theorem dX1_init_37 : decode cX1_init 37 = .ok (.bipush 8, 2) := by decide +kernel
theorem dX1_init_39 : decode cX1_init 39 = .ok (.newarray .int, 2) := by decide +kernel
theorem dX1_init_41 : decode cX1_init 41 = .ok (.putfield 24, 3) := by decide +kernel
theorem dX1_init_44 : decode cX1_init 44 = .ok (.return_, 1) := by decide +kernel
theorem dX1_mayBe_0 : decode cX1_mayBe 0 = .ok (.iload_n 0, 1) := by decide +kernel
theorem dX1_mayBe_1 : decode cX1_mayBe 1 = .ok (.iconst 0, 1) := by decide +kernel
theorem dX1_mayBe_2 : decode cX1_mayBe 2 = .ok (.iconst 2, 1) := by decide +kernel
theorem dX1_mayBe_3 : decode cX1_mayBe 3 = .ok (.invokestatic 27, 3) := by decide +kernel
theorem dX1_mayBe_6 : decode cX1_mayBe 6 = .ok (.ifCond .eq 34, 3) := by decide +kernel
theorem dX1_mayBe_9 : decode cX1_mayBe 9 = .ok (.iload_n 1, 1) := by decide +kernel
theorem dX1_mayBe_10 : decode cX1_mayBe 10 = .ok (.invokestatic 31, 3) := by decide +kernel
theorem dX1_mayBe_13 : decode cX1_mayBe 13 = .ok (.ifCond .eq 27, 3) := by decide +kernel
theorem dX1_mayBe_16 : decode cX1_mayBe 16 = .ok (.iload_n 2, 1) := by decide +kernel
theorem dX1_mayBe_17 : decode cX1_mayBe 17 = .ok (.iconst 0, 1) := by decide +kernel
theorem dX1_mayBe_18 : decode cX1_mayBe 18 = .ok (.bipush 7, 2) := by decide +kernel
theorem dX1_mayBe_20 : decode cX1_mayBe 20 = .ok (.invokestatic 27, 3) := by decide +kernel
theorem dX1_mayBe_23 : decode cX1_mayBe 23 = .ok (.ifCond .eq 17, 3) := by decide +kernel
theorem dX1_mayBe_26 : decode cX1_mayBe 26 = .ok (.iload_n 3, 1) := by decide +kernel
theorem dX1_mayBe_27 : decode cX1_mayBe 27 = .ok (.iconst 0, 1) := by decide +kernel
theorem dX1_mayBe_28 : decode cX1_mayBe 28 = .ok (.bipush 9, 2) := by decide +kernel
theorem dX1_mayBe_30 : decode cX1_mayBe 30 = .ok (.invokestatic 27, 3) := by decide +kernel
theorem dX1_mayBe_33 : decode cX1_mayBe 33 = .ok (.ifCond .eq 7, 3) := by decide +kernel
theorem dX1_mayBe_36 : decode cX1_mayBe 36 = .ok (.iconst 1, 1) := by decide +kernel
theorem dX1_mayBe_37 : decode cX1_mayBe 37 = .ok (.goto 4, 3) := by decide +kernel
theorem dX1_mayBe_40 : decode cX1_mayBe 40 = .ok (.iconst 0, 1) := by decide +kernel
theorem dX1_mayBe_41 : decode cX1_mayBe 41 = .ok (.ireturn, 1) := by decide +kernel
theorem dX1_isFull_0 : decode cX1_isFull 0 = .ok (.aload_n 0, 1) := by decide +kernel
theorem dX1_isFull_1 : decode cX1_isFull 1 = .ok (.getfield 35, 3) := by decide +kernel
theorem dX1_isFull_4 : decode cX1_isFull 4 = .ok (.bipush 8, 2) := by decide +kernel
theorem dX1_isFull_6 : decode cX1_isFull 6 = .ok (.if_icmp .lt 7, 3) := by decide +kernel
theorem dX1_isFull_9 : decode cX1_isFull 9 = .ok (.iconst 1, 1) := by decide +kernel
theorem dX1_isFull_10 : decode cX1_isFull 10 = .ok (.goto 4, 3) := by decide +kernel
theorem dX1_isFull_13 : decode cX1_isFull 13 = .ok (.iconst 0, 1) := by decide +kernel
theorem dX1_isFull_14 : decode cX1_isFull 14 = .ok (.ireturn, 1) := by decide +kernel
theorem dX1_all_0 : decode cX1_all 0 = .ok (.iconst 1, 1) := by decide +kernel
theorem dX1_all_1 : decode cX1_all 1 = .ok (.aload_n 0, 1) := by decide +kernel
theorem dX1_all_2 : decode cX1_all 2 = .ok (.getfield 35, 3) := by decide +kernel
theorem dX1_all_5 : decode cX1_all 5 = .ok (.ishl, 1) := by decide +kernel
theorem dX1_all_6 : decode cX1_all 6 = .ok (.iconst 1, 1) := by decide +kernel
theorem dX1_all_7 : decode cX1_all 7 = .ok (.isub, 1) := by decide +kernel
theorem dX1_all_8 : decode cX1_all 8 = .ok (.ireturn, 1) := by decide +kernel
theorem dX1_tell_0 : decode cX1_tell 0 = .ok (.aload_n 0, 1) := by decide +kernel
theorem dX1_tell_1 : decode cX1_tell 1 = .ok (.invokevirtual 39, 3) := by decide +kernel
theorem dX1_tell_4 : decode cX1_tell 4 = .ok (.ifCond .eq 4, 3) := by decide +kernel
theorem dX1_tell_7 : decode cX1_tell 7 = .ok (.return_, 1) := by decide +kernel
theorem dX1_tell_8 : decode cX1_tell 8 = .ok (.aload_n 0, 1) := by decide +kernel
theorem dX1_tell_9 : decode cX1_tell 9 = .ok (.getfield 9, 3) := by decide +kernel
theorem dX1_tell_12 : decode cX1_tell 12 = .ok (.aload_n 0, 1) := by decide +kernel
theorem dX1_tell_13 : decode cX1_tell 13 = .ok (.getfield 35, 3) := by decide +kernel
theorem dX1_tell_16 : decode cX1_tell 16 = .ok (.iload_n 1, 1) := by decide +kernel
theorem dX1_tell_17 : decode cX1_tell 17 = .ok (.iastore, 1) := by decide +kernel
theorem dX1_tell_18 : decode cX1_tell 18 = .ok (.aload_n 0, 1) := by decide +kernel
theorem dX1_tell_19 : decode cX1_tell 19 = .ok (.getfield 15, 3) := by decide +kernel
theorem dX1_tell_22 : decode cX1_tell 22 = .ok (.aload_n 0, 1) := by decide +kernel
theorem dX1_tell_23 : decode cX1_tell 23 = .ok (.getfield 35, 3) := by decide +kernel
theorem dX1_tell_26 : decode cX1_tell 26 = .ok (.iload_n 2, 1) := by decide +kernel
theorem dX1_tell_27 : decode cX1_tell 27 = .ok (.iastore, 1) := by decide +kernel
theorem dX1_tell_28 : decode cX1_tell 28 = .ok (.aload_n 0, 1) := by decide +kernel
theorem dX1_tell_29 : decode cX1_tell 29 = .ok (.getfield 18, 3) := by decide +kernel
theorem dX1_tell_32 : decode cX1_tell 32 = .ok (.aload_n 0, 1) := by decide +kernel
theorem dX1_tell_33 : decode cX1_tell 33 = .ok (.getfield 35, 3) := by decide +kernel
theorem dX1_tell_36 : decode cX1_tell 36 = .ok (.iload_n 3, 1) := by decide +kernel
theorem dX1_tell_37 : decode cX1_tell 37 = .ok (.iastore, 1) := by decide +kernel
theorem dX1_tell_38 : decode cX1_tell 38 = .ok (.aload_n 0, 1) := by decide +kernel
theorem dX1_tell_39 : decode cX1_tell 39 = .ok (.getfield 21, 3) := by decide +kernel
theorem dX1_tell_42 : decode cX1_tell 42 = .ok (.aload_n 0, 1) := by decide +kernel
theorem dX1_tell_43 : decode cX1_tell 43 = .ok (.getfield 35, 3) := by decide +kernel
theorem dX1_tell_46 : decode cX1_tell 46 = .ok (.iload 4, 2) := by decide +kernel
theorem dX1_tell_48 : decode cX1_tell 48 = .ok (.iastore, 1) := by decide +kernel
theorem dX1_tell_49 : decode cX1_tell 49 = .ok (.aload_n 0, 1) := by decide +kernel
theorem dX1_tell_50 : decode cX1_tell 50 = .ok (.getfield 35, 3) := by decide +kernel
theorem dX1_tell_53 : decode cX1_tell 53 = .ok (.istore 5, 2) := by decide +kernel
theorem dX1_tell_55 : decode cX1_tell 55 = .ok (.iload 5, 2) := by decide +kernel
theorem dX1_tell_57 : decode cX1_tell 57 = .ok (.ifCond .le 43, 3) := by decide +kernel
theorem dX1_tell_60 : decode cX1_tell 60 = .ok (.aload_n 0, 1) := by decide +kernel
theorem dX1_tell_61 : decode cX1_tell 61 = .ok (.getfield 15, 3) := by decide +kernel
theorem dX1_tell_64 : decode cX1_tell 64 = .ok (.aload_n 0, 1) := by decide +kernel
theorem dX1_tell_65 : decode cX1_tell 65 = .ok (.getfield 24, 3) := by decide +kernel
theorem dX1_tell_68 : decode cX1_tell 68 = .ok (.iload 5, 2) := by decide +kernel
theorem dX1_tell_70 : decode cX1_tell 70 = .ok (.iconst 1, 1) := by decide +kernel
theorem dX1_tell_71 : decode cX1_tell 71 = .ok (.isub, 1) := by decide +kernel
theorem dX1_tell_72 : decode cX1_tell 72 = .ok (.iaload, 1) := by decide +kernel
theorem dX1_tell_73 : decode cX1_tell 73 = .ok (.iaload, 1) := by decide +kernel
theorem dX1_tell_74 : decode cX1_tell 74 = .ok (.iload_n 2, 1) := by decide +kernel
theorem dX1_tell_75 : decode cX1_tell 75 = .ok (.if_icmp .le 25, 3) := by decide +kernel
theorem dX1_tell_78 : decode cX1_tell 78 = .ok (.aload_n 0, 1) := by decide +kernel
theorem dX1_tell_79 : decode cX1_tell 79 = .ok (.getfield 24, 3) := by decide +kernel
theorem dX1_tell_82 : decode cX1_tell 82 = .ok (.iload 5, 2) := by decide +kernel
theorem dX1_tell_84 : decode cX1_tell 84 = .ok (.aload_n 0, 1) := by decide +kernel
theorem dX1_tell_85 : decode cX1_tell 85 = .ok (.getfield 24, 3) := by decide +kernel
theorem dX1_tell_88 : decode cX1_tell 88 = .ok (.iload 5, 2) := by decide +kernel
theorem dX1_tell_90 : decode cX1_tell 90 = .ok (.iconst 1, 1) := by decide +kernel
theorem dX1_tell_91 : decode cX1_tell 91 = .ok (.isub, 1) := by decide +kernel
theorem dX1_tell_92 : decode cX1_tell 92 = .ok (.iaload, 1) := by decide +kernel
theorem dX1_tell_93 : decode cX1_tell 93 = .ok (.iastore, 1) := by decide +kernel
theorem dX1_tell_94 : decode cX1_tell 94 = .ok (.iinc 5 (-1), 3) := by decide +kernel
theorem dX1_tell_97 : decode cX1_tell 97 = .ok (.goto (-42), 3) := by decide +kernel
theorem dX1_tell_100 : decode cX1_tell 100 = .ok (.aload_n 0, 1) := by decide +kernel
theorem dX1_tell_101 : decode cX1_tell 101 = .ok (.getfield 24, 3) := by decide +kernel
theorem dX1_tell_104 : decode cX1_tell 104 = .ok (.iload 5, 2) := by decide +kernel
theorem dX1_tell_106 : decode cX1_tell 106 = .ok (.aload_n 0, 1) := by decide +kernel
theorem dX1_tell_107 : decode cX1_tell 107 = .ok (.getfield 35, 3) := by decide +kernel
theorem dX1_tell_110 : decode cX1_tell 110 = .ok (.iastore, 1) := by decide +kernel
theorem dX1_tell_111 : decode cX1_tell 111 = .ok (.aload_n 0, 1) := by decide +kernel
theorem dX1_tell_112 : decode cX1_tell 112 = .ok (.dup, 1) := by decide +kernel
theorem dX1_tell_113 : decode cX1_tell 113 = .ok (.getfield 35, 3) := by decide +kernel
theorem dX1_tell_116 : decode cX1_tell 116 = .ok (.iconst 1, 1) := by decide +kernel
theorem dX1_tell_117 : decode cX1_tell 117 = .ok (.iadd, 1) := by decide +kernel
theorem dX1_tell_118 : decode cX1_tell 118 = .ok (.putfield 35, 3) := by decide +kernel
theorem dX1_tell_121 : decode cX1_tell 121 = .ok (.return_, 1) := by decide +kernel
theorem dX1_untell_0 : decode cX1_untell 0 = .ok (.aload_n 0, 1) := by decide +kernel
theorem dX1_untell_1 : decode cX1_untell 1 = .ok (.getfield 35, 3) := by decide +kernel
theorem dX1_untell_4 : decode cX1_untell 4 = .ok (.ifCond .ne 4, 3) := by decide +kernel
theorem dX1_untell_7 : decode cX1_untell 7 = .ok (.return_, 1) := by decide +kernel
theorem dX1_untell_8 : decode cX1_untell 8 = .ok (.aload_n 0, 1) := by decide +kernel
theorem dX1_untell_9 : decode cX1_untell 9 = .ok (.dup, 1) := by decide +kernel
theorem dX1_untell_10 : decode cX1_untell 10 = .ok (.getfield 35, 3) := by decide +kernel
theorem dX1_untell_13 : decode cX1_untell 13 = .ok (.iconst 1, 1) := by decide +kernel
theorem dX1_untell_14 : decode cX1_untell 14 = .ok (.isub, 1) := by decide +kernel
theorem dX1_untell_15 : decode cX1_untell 15 = .ok (.putfield 35, 3) := by decide +kernel
theorem dX1_untell_18 : decode cX1_untell 18 = .ok (.iconst 0, 1) := by decide +kernel
theorem dX1_untell_19 : decode cX1_untell 19 = .ok (.istore_n 1, 1) := by decide +kernel
theorem dX1_untell_20 : decode cX1_untell 20 = .ok (.iconst 0, 1) := by decide +kernel
theorem dX1_untell_21 : decode cX1_untell 21 = .ok (.istore_n 2, 1) := by decide +kernel
theorem dX1_untell_22 : decode cX1_untell 22 = .ok (.iload_n 2, 1) := by decide +kernel
theorem dX1_untell_23 : decode cX1_untell 23 = .ok (.aload_n 0, 1) := by decide +kernel
theorem dX1_untell_24 : decode cX1_untell 24 = .ok (.getfield 35, 3) := by decide +kernel
theorem dX1_untell_27 : decode cX1_untell 27 = .ok (.if_icmp .gt 37, 3) := by decide +kernel
theorem dX1_untell_30 : decode cX1_untell 30 = .ok (.aload_n 0, 1) := by decide +kernel
theorem dX1_untell_31 : decode cX1_untell 31 = .ok (.getfield 24, 3) := by decide +kernel
theorem dX1_untell_34 : decode cX1_untell 34 = .ok (.iload_n 2, 1) := by decide +kernel
theorem dX1_untell_35 : decode cX1_untell 35 = .ok (.iaload, 1) := by decide +kernel
theorem dX1_untell_36 : decode cX1_untell 36 = .ok (.aload_n 0, 1) := by decide +kernel
theorem dX1_untell_37 : decode cX1_untell 37 = .ok (.getfield 35, 3) := by decide +kernel
theorem dX1_untell_40 : decode cX1_untell 40 = .ok (.if_icmp .eq 18, 3) := by decide +kernel
theorem dX1_untell_43 : decode cX1_untell 43 = .ok (.aload_n 0, 1) := by decide +kernel
theorem dX1_untell_44 : decode cX1_untell 44 = .ok (.getfield 24, 3) := by decide +kernel
theorem dX1_untell_47 : decode cX1_untell 47 = .ok (.iload_n 1, 1) := by decide +kernel
theorem dX1_untell_48 : decode cX1_untell 48 = .ok (.aload_n 0, 1) := by decide +kernel
theorem dX1_untell_49 : decode cX1_untell 49 = .ok (.getfield 24, 3) := by decide +kernel
theorem dX1_untell_52 : decode cX1_untell 52 = .ok (.iload_n 2, 1) := by decide +kernel
theorem dX1_untell_53 : decode cX1_untell 53 = .ok (.iaload, 1) := by decide +kernel
theorem dX1_untell_54 : decode cX1_untell 54 = .ok (.iastore, 1) := by decide +kernel
theorem dX1_untell_55 : decode cX1_untell 55 = .ok (.iinc 1 1, 3) := by decide +kernel
theorem dX1_untell_58 : decode cX1_untell 58 = .ok (.iinc 2 1, 3) := by decide +kernel
theorem dX1_untell_61 : decode cX1_untell 61 = .ok (.goto (-39), 3) := by decide +kernel
theorem dX1_untell_64 : decode cX1_untell 64 = .ok (.return_, 1) := by decide +kernel
theorem dX1_touch_0 : decode cX1_touch 0 = .ok (.iconst 0, 1) := by decide +kernel
theorem dX1_touch_1 : decode cX1_touch 1 = .ok (.istore_n 3, 1) := by decide +kernel
theorem dX1_touch_2 : decode cX1_touch 2 = .ok (.iload_n 3, 1) := by decide +kernel
theorem dX1_touch_3 : decode cX1_touch 3 = .ok (.aload_n 0, 1) := by decide +kernel
theorem dX1_touch_4 : decode cX1_touch 4 = .ok (.getfield 35, 3) := by decide +kernel
theorem dX1_touch_7 : decode cX1_touch 7 = .ok (.if_icmp .ge 30, 3) := by decide +kernel
theorem dX1_touch_10 : decode cX1_touch 10 = .ok (.aload_n 0, 1) := by decide +kernel
theorem dX1_touch_11 : decode cX1_touch 11 = .ok (.getfield 18, 3) := by decide +kernel
theorem dX1_touch_14 : decode cX1_touch 14 = .ok (.iload_n 3, 1) := by decide +kernel
theorem dX1_touch_15 : decode cX1_touch 15 = .ok (.iaload, 1) := by decide +kernel
theorem dX1_touch_16 : decode cX1_touch 16 = .ok (.iload_n 1, 1) := by decide +kernel
theorem dX1_touch_17 : decode cX1_touch 17 = .ok (.if_icmp .ne 14, 3) := by decide +kernel
theorem dX1_touch_20 : decode cX1_touch 20 = .ok (.iload_n 2, 1) := by decide +kernel
theorem dX1_touch_21 : decode cX1_touch 21 = .ok (.iload_n 3, 1) := by decide +kernel
theorem dX1_touch_22 : decode cX1_touch 22 = .ok (.ishr, 1) := by decide +kernel
theorem dX1_touch_23 : decode cX1_touch 23 = .ok (.iconst 1, 1) := by decide +kernel
theorem dX1_touch_24 : decode cX1_touch 24 = .ok (.iand, 1) := by decide +kernel
theorem dX1_touch_25 : decode cX1_touch 25 = .ok (.iconst 1, 1) := by decide +kernel
theorem dX1_touch_26 : decode cX1_touch 26 = .ok (.if_icmp .ne 5, 3) := by decide +kernel
theorem dX1_touch_29 : decode cX1_touch 29 = .ok (.iconst 1, 1) := by decide +kernel
theorem dX1_touch_30 : decode cX1_touch 30 = .ok (.ireturn, 1) := by decide +kernel
theorem dX1_touch_31 : decode cX1_touch 31 = .ok (.iinc 3 1, 3) := by decide +kernel
theorem dX1_touch_34 : decode cX1_touch 34 = .ok (.goto (-32), 3) := by decide +kernel
theorem dX1_touch_37 : decode cX1_touch 37 = .ok (.iconst 0, 1) := by decide +kernel
theorem dX1_touch_38 : decode cX1_touch 38 = .ok (.ireturn, 1) := by decide +kernel
theorem dX2_init_0 : decode cX2_init 0 = .ok (.aload_n 0, 1) := by decide +kernel
theorem dX2_init_1 : decode cX2_init 1 = .ok (.invokespecial 3, 3) := by decide +kernel
theorem dX2_init_4 : decode cX2_init 4 = .ok (.aload_n 0, 1) := by decide +kernel
theorem dX2_init_5 : decode cX2_init 5 = .ok (.bipush 16, 2) := by decide +kernel
theorem dX2_init_7 : decode cX2_init 7 = .ok (.newarray .int, 2) := by decide +kernel
theorem dX2_init_9 : decode cX2_init 9 = .ok (.putfield 11, 3) := by decide +kernel
theorem dX2_init_12 : decode cX2_init 12 = .ok (.aload_n 0, 1) := by decide +kernel
theorem dX2_init_13 : decode cX2_init 13 = .ok (.bipush 16, 2) := by decide +kernel
theorem dX2_init_15 : decode cX2_init 15 = .ok (.newarray .int, 2) := by decide +kernel
theorem dX2_init_17 : decode cX2_init 17 = .ok (.putfield 15, 3) := by decide +kernel
theorem dX2_init_20 : decode cX2_init 20 = .ok (.aload_n 0, 1) := by decide +kernel
theorem dX2_init_21 : decode cX2_init 21 = .ok (.bipush 16, 2) := by decide +kernel
theorem dX2_init_23 : decode cX2_init 23 = .ok (.newarray .int, 2) := by decide +kernel
theorem dX2_init_25 : decode cX2_init 25 = .ok (.putfield 18, 3) := by decide +kernel
theorem dX2_init_28 : decode cX2_init 28 = .ok (.return_, 1) := by decide +kernel
theorem dX2_clear_0 : decode cX2_clear 0 = .ok (.aload_n 0, 1) := by decide +kernel
theorem dX2_clear_1 : decode cX2_clear 1 = .ok (.iconst 0, 1) := by decide +kernel
theorem dX2_clear_2 : decode cX2_clear 2 = .ok (.putfield 21, 3) := by decide +kernel
theorem dX2_clear_5 : decode cX2_clear 5 = .ok (.return_, 1) := by decide +kernel
theorem dX2_mark_0 : decode cX2_mark 0 = .ok (.iconst 0, 1) := by decide +kernel
theorem dX2_mark_1 : decode cX2_mark 1 = .ok (.istore_n 3, 1) := by decide +kernel
theorem dX2_mark_2 : decode cX2_mark 2 = .ok (.iload_n 3, 1) := by decide +kernel
theorem dX2_mark_3 : decode cX2_mark 3 = .ok (.aload_n 0, 1) := by decide +kernel
theorem dX2_mark_4 : decode cX2_mark 4 = .ok (.getfield 21, 3) := by decide +kernel
theorem dX2_mark_7 : decode cX2_mark 7 = .ok (.if_icmp .ge 40, 3) := by decide +kernel
theorem dX2_mark_10 : decode cX2_mark 10 = .ok (.aload_n 0, 1) := by decide +kernel
theorem dX2_mark_11 : decode cX2_mark 11 = .ok (.getfield 11, 3) := by decide +kernel
theorem dX2_mark_14 : decode cX2_mark 14 = .ok (.iload_n 3, 1) := by decide +kernel
theorem dX2_mark_15 : decode cX2_mark 15 = .ok (.iaload, 1) := by decide +kernel
theorem dX2_mark_16 : decode cX2_mark 16 = .ok (.iload_n 1, 1) := by decide +kernel
theorem dX2_mark_17 : decode cX2_mark 17 = .ok (.if_icmp .ne 24, 3) := by decide +kernel
theorem dX2_mark_20 : decode cX2_mark 20 = .ok (.aload_n 0, 1) := by decide +kernel
theorem dX2_mark_21 : decode cX2_mark 21 = .ok (.getfield 15, 3) := by decide +kernel
theorem dX2_mark_24 : decode cX2_mark 24 = .ok (.iload_n 3, 1) := by decide +kernel
theorem dX2_mark_25 : decode cX2_mark 25 = .ok (.iaload, 1) := by decide +kernel
theorem dX2_mark_26 : decode cX2_mark 26 = .ok (.iload_n 2, 1) := by decide +kernel
theorem dX2_mark_27 : decode cX2_mark 27 = .ok (.if_icmp .ne 14, 3) := by decide +kernel
theorem dX2_mark_30 : decode cX2_mark 30 = .ok (.aload_n 0, 1) := by decide +kernel
theorem dX2_mark_31 : decode cX2_mark 31 = .ok (.getfield 18, 3) := by decide +kernel
theorem dX2_mark_34 : decode cX2_mark 34 = .ok (.iload_n 3, 1) := by decide +kernel
theorem dX2_mark_35 : decode cX2_mark 35 = .ok (.dup2, 1) := by decide +kernel
theorem dX2_mark_36 : decode cX2_mark 36 = .ok (.iaload, 1) := by decide +kernel
theorem dX2_mark_37 : decode cX2_mark 37 = .ok (.iconst 1, 1) := by decide +kernel
theorem dX2_mark_38 : decode cX2_mark 38 = .ok (.iadd, 1) := by decide +kernel
theorem dX2_mark_39 : decode cX2_mark 39 = .ok (.iastore, 1) := by decide +kernel
theorem dX2_mark_40 : decode cX2_mark 40 = .ok (.return_, 1) := by decide +kernel
theorem dX2_mark_41 : decode cX2_mark 41 = .ok (.iinc 3 1, 3) := by decide +kernel
theorem dX2_mark_44 : decode cX2_mark 44 = .ok (.goto (-42), 3) := by decide +kernel
theorem dX2_mark_47 : decode cX2_mark 47 = .ok (.aload_n 0, 1) := by decide +kernel
theorem dX2_mark_48 : decode cX2_mark 48 = .ok (.getfield 21, 3) := by decide +kernel
theorem dX2_mark_51 : decode cX2_mark 51 = .ok (.bipush 16, 2) := by decide +kernel
theorem dX2_mark_53 : decode cX2_mark 53 = .ok (.if_icmp .ge 43, 3) := by decide +kernel
theorem dX2_mark_56 : decode cX2_mark 56 = .ok (.aload_n 0, 1) := by decide +kernel
theorem dX2_mark_57 : decode cX2_mark 57 = .ok (.getfield 11, 3) := by decide +kernel
theorem dX2_mark_60 : decode cX2_mark 60 = .ok (.aload_n 0, 1) := by decide +kernel
theorem dX2_mark_61 : decode cX2_mark 61 = .ok (.getfield 21, 3) := by decide +kernel
theorem dX2_mark_64 : decode cX2_mark 64 = .ok (.iload_n 1, 1) := by decide +kernel
theorem dX2_mark_65 : decode cX2_mark 65 = .ok (.iastore, 1) := by decide +kernel
theorem dX2_mark_66 : decode cX2_mark 66 = .ok (.aload_n 0, 1) := by decide +kernel
theorem dX2_mark_67 : decode cX2_mark 67 = .ok (.getfield 15, 3) := by decide +kernel
theorem dX2_mark_70 : decode cX2_mark 70 = .ok (.aload_n 0, 1) := by decide +kernel
theorem dX2_mark_71 : decode cX2_mark 71 = .ok (.getfield 21, 3) := by decide +kernel
theorem dX2_mark_74 : decode cX2_mark 74 = .ok (.iload_n 2, 1) := by decide +kernel
theorem dX2_mark_75 : decode cX2_mark 75 = .ok (.iastore, 1) := by decide +kernel
theorem dX2_mark_76 : decode cX2_mark 76 = .ok (.aload_n 0, 1) := by decide +kernel
theorem dX2_mark_77 : decode cX2_mark 77 = .ok (.getfield 18, 3) := by decide +kernel
theorem dX2_mark_80 : decode cX2_mark 80 = .ok (.aload_n 0, 1) := by decide +kernel
theorem dX2_mark_81 : decode cX2_mark 81 = .ok (.getfield 21, 3) := by decide +kernel
theorem dX2_mark_84 : decode cX2_mark 84 = .ok (.iconst 1, 1) := by decide +kernel
theorem dX2_mark_85 : decode cX2_mark 85 = .ok (.iastore, 1) := by decide +kernel
theorem dX2_mark_86 : decode cX2_mark 86 = .ok (.aload_n 0, 1) := by decide +kernel
theorem dX2_mark_87 : decode cX2_mark 87 = .ok (.dup, 1) := by decide +kernel
theorem dX2_mark_88 : decode cX2_mark 88 = .ok (.getfield 21, 3) := by decide +kernel
theorem dX2_mark_91 : decode cX2_mark 91 = .ok (.iconst 1, 1) := by decide +kernel
theorem dX2_mark_92 : decode cX2_mark 92 = .ok (.iadd, 1) := by decide +kernel
theorem dX2_mark_93 : decode cX2_mark 93 = .ok (.putfield 21, 3) := by decide +kernel
theorem dX2_mark_96 : decode cX2_mark 96 = .ok (.return_, 1) := by decide +kernel
theorem dX2_mostMarks_0 : decode cX2_mostMarks 0 = .ok (.iconst 0, 1) := by decide +kernel
theorem dX2_mostMarks_1 : decode cX2_mostMarks 1 = .ok (.istore_n 1, 1) := by decide +kernel
theorem dX2_mostMarks_2 : decode cX2_mostMarks 2 = .ok (.iconst 0, 1) := by decide +kernel
theorem dX2_mostMarks_3 : decode cX2_mostMarks 3 = .ok (.istore_n 2, 1) := by decide +kernel
theorem dX2_mostMarks_4 : decode cX2_mostMarks 4 = .ok (.iload_n 2, 1) := by decide +kernel
theorem dX2_mostMarks_5 : decode cX2_mostMarks 5 = .ok (.aload_n 0, 1) := by decide +kernel
theorem dX2_mostMarks_6 : decode cX2_mostMarks 6 = .ok (.getfield 21, 3) := by decide +kernel
theorem dX2_mostMarks_9 : decode cX2_mostMarks 9 = .ok (.if_icmp .ge 20, 3) := by decide +kernel
theorem dX2_mostMarks_12 : decode cX2_mostMarks 12 = .ok (.iload_n 1, 1) := by decide +kernel
theorem dX2_mostMarks_13 : decode cX2_mostMarks 13 = .ok (.aload_n 0, 1) := by decide +kernel
theorem dX2_mostMarks_14 : decode cX2_mostMarks 14 = .ok (.getfield 18, 3) := by decide +kernel
theorem dX2_mostMarks_17 : decode cX2_mostMarks 17 = .ok (.iload_n 2, 1) := by decide +kernel
theorem dX2_mostMarks_18 : decode cX2_mostMarks 18 = .ok (.iaload, 1) := by decide +kernel
theorem dX2_mostMarks_19 : decode cX2_mostMarks 19 = .ok (.invokestatic 25, 3) := by decide +kernel
theorem dX2_mostMarks_22 : decode cX2_mostMarks 22 = .ok (.istore_n 1, 1) := by decide +kernel
theorem dX2_mostMarks_23 : decode cX2_mostMarks 23 = .ok (.iinc 2 1, 3) := by decide +kernel
theorem dX2_mostMarks_26 : decode cX2_mostMarks 26 = .ok (.goto (-22), 3) := by decide +kernel
theorem dX2_mostMarks_29 : decode cX2_mostMarks 29 = .ok (.iload_n 1, 1) := by decide +kernel
theorem dX2_mostMarks_30 : decode cX2_mostMarks 30 = .ok (.ireturn, 1) := by decide +kernel
theorem dX3_init_0 : decode cX3_init 0 = .ok (.aload_n 0, 1) := by decide +kernel
theorem dX3_init_1 : decode cX3_init 1 = .ok (.invokespecial 3, 3) := by decide +kernel
theorem dX3_init_4 : decode cX3_init 4 = .ok (.return_, 1) := by decide +kernel
theorem dX3_live_0 : decode cX3_live 0 = .ok (.aload_n 0, 1) := by decide +kernel
theorem dX3_live_1 : decode cX3_live 1 = .ok (.aload_n 1, 1) := by decide +kernel
theorem dX3_live_2 : decode cX3_live 2 = .ok (.iload 4, 2) := by decide +kernel
theorem dX3_live_4 : decode cX3_live 4 = .ok (.invokevirtual 9, 3) := by decide +kernel
theorem dX3_live_7 : decode cX3_live 7 = .ok (.iconst 0, 1) := by decide +kernel
theorem dX3_live_8 : decode cX3_live 8 = .ok (.istore 6, 2) := by decide +kernel
theorem dX3_live_10 : decode cX3_live 10 = .ok (.iconst 0, 1) := by decide +kernel
theorem dX3_live_11 : decode cX3_live 11 = .ok (.istore 7, 2) := by decide +kernel
theorem dX3_live_13 : decode cX3_live 13 = .ok (.iload 7, 2) := by decide +kernel
theorem dX3_live_15 : decode cX3_live 15 = .ok (.aload_n 2, 1) := by decide +kernel
theorem dX3_live_16 : decode cX3_live 16 = .ok (.getfield 15, 3) := by decide +kernel
theorem dX3_live_19 : decode cX3_live 19 = .ok (.if_icmp .ge 92, 3) := by decide +kernel
theorem dX3_live_22 : decode cX3_live 22 = .ok (.aload_n 2, 1) := by decide +kernel
theorem dX3_live_23 : decode cX3_live 23 = .ok (.getfield 21, 3) := by decide +kernel
theorem dX3_live_26 : decode cX3_live 26 = .ok (.iload 7, 2) := by decide +kernel
theorem dX3_live_28 : decode cX3_live 28 = .ok (.iaload, 1) := by decide +kernel
theorem dX3_live_29 : decode cX3_live 29 = .ok (.istore 8, 2) := by decide +kernel
theorem dX3_live_31 : decode cX3_live 31 = .ok (.aload_n 2, 1) := by decide +kernel
theorem dX3_live_32 : decode cX3_live 32 = .ok (.getfield 25, 3) := by decide +kernel
theorem dX3_live_35 : decode cX3_live 35 = .ok (.iload 8, 2) := by decide +kernel
theorem dX3_live_37 : decode cX3_live 37 = .ok (.iaload, 1) := by decide +kernel
theorem dX3_live_38 : decode cX3_live 38 = .ok (.iload 5, 2) := by decide +kernel
theorem dX3_live_40 : decode cX3_live 40 = .ok (.if_icmp .gt 65, 3) := by decide +kernel
theorem dX3_live_43 : decode cX3_live 43 = .ok (.aload_n 2, 1) := by decide +kernel
theorem dX3_live_44 : decode cX3_live 44 = .ok (.getfield 28, 3) := by decide +kernel
theorem dX3_live_47 : decode cX3_live 47 = .ok (.iload 8, 2) := by decide +kernel
theorem dX3_live_49 : decode cX3_live 49 = .ok (.iaload, 1) := by decide +kernel
theorem dX3_live_50 : decode cX3_live 50 = .ok (.iload 4, 2) := by decide +kernel
theorem dX3_live_52 : decode cX3_live 52 = .ok (.if_icmp .ne 53, 3) := by decide +kernel
theorem dX3_live_55 : decode cX3_live 55 = .ok (.iload_n 3, 1) := by decide +kernel
theorem dX3_live_56 : decode cX3_live 56 = .ok (.iload 8, 2) := by decide +kernel
theorem dX3_live_58 : decode cX3_live 58 = .ok (.ishr, 1) := by decide +kernel
theorem dX3_live_59 : decode cX3_live 59 = .ok (.iconst 1, 1) := by decide +kernel
theorem dX3_live_60 : decode cX3_live 60 = .ok (.iand, 1) := by decide +kernel
theorem dX3_live_61 : decode cX3_live 61 = .ok (.iconst 1, 1) := by decide +kernel
theorem dX3_live_62 : decode cX3_live 62 = .ok (.if_icmp .ne 43, 3) := by decide +kernel
theorem dX3_live_65 : decode cX3_live 65 = .ok (.aload_n 0, 1) := by decide +kernel
theorem dX3_live_66 : decode cX3_live 66 = .ok (.iload 6, 2) := by decide +kernel
theorem dX3_live_68 : decode cX3_live 68 = .ok (.aload_n 2, 1) := by decide +kernel
theorem dX3_live_69 : decode cX3_live 69 = .ok (.getfield 25, 3) := by decide +kernel
theorem dX3_live_72 : decode cX3_live 72 = .ok (.iload 8, 2) := by decide +kernel
theorem dX3_live_74 : decode cX3_live 74 = .ok (.iaload, 1) := by decide +kernel
theorem dX3_live_75 : decode cX3_live 75 = .ok (.invokevirtual 31, 3) := by decide +kernel
theorem dX3_live_78 : decode cX3_live 78 = .ok (.aload_n 2, 1) := by decide +kernel
theorem dX3_live_79 : decode cX3_live 79 = .ok (.getfield 25, 3) := by decide +kernel
theorem dX3_live_82 : decode cX3_live 82 = .ok (.iload 8, 2) := by decide +kernel
theorem dX3_live_84 : decode cX3_live 84 = .ok (.iaload, 1) := by decide +kernel
theorem dX3_live_85 : decode cX3_live 85 = .ok (.istore 6, 2) := by decide +kernel
theorem dX3_live_87 : decode cX3_live 87 = .ok (.aload_n 0, 1) := by decide +kernel
theorem dX3_live_88 : decode cX3_live 88 = .ok (.aload_n 2, 1) := by decide +kernel
theorem dX3_live_89 : decode cX3_live 89 = .ok (.getfield 35, 3) := by decide +kernel
theorem dX3_live_92 : decode cX3_live 92 = .ok (.iload 8, 2) := by decide +kernel
theorem dX3_live_94 : decode cX3_live 94 = .ok (.iaload, 1) := by decide +kernel
theorem dX3_live_95 : decode cX3_live 95 = .ok (.aload_n 2, 1) := by decide +kernel
theorem dX3_live_96 : decode cX3_live 96 = .ok (.getfield 38, 3) := by decide +kernel
theorem dX3_live_99 : decode cX3_live 99 = .ok (.iload 8, 2) := by decide +kernel
theorem dX3_live_101 : decode cX3_live 101 = .ok (.iaload, 1) := by decide +kernel
theorem dX3_live_102 : decode cX3_live 102 = .ok (.invokevirtual 41, 3) := by decide +kernel
theorem dX3_live_105 : decode cX3_live 105 = .ok (.iinc 7 1, 3) := by decide +kernel
theorem dX3_live_108 : decode cX3_live 108 = .ok (.goto (-95), 3) := by decide +kernel
theorem dX3_live_111 : decode cX3_live 111 = .ok (.aload_n 0, 1) := by decide +kernel
theorem dX3_live_112 : decode cX3_live 112 = .ok (.iload 6, 2) := by decide +kernel
theorem dX3_live_114 : decode cX3_live 114 = .ok (.iload 5, 2) := by decide +kernel
theorem dX3_live_116 : decode cX3_live 116 = .ok (.iconst 1, 1) := by decide +kernel
theorem dX3_live_117 : decode cX3_live 117 = .ok (.iadd, 1) := by decide +kernel
theorem dX3_live_118 : decode cX3_live 118 = .ok (.invokevirtual 31, 3) := by decide +kernel
theorem dX3_live_121 : decode cX3_live 121 = .ok (.return_, 1) := by decide +kernel
theorem dX3_begin_0 : decode cX3_begin 0 = .ok (.aload_n 0, 1) := by decide +kernel
theorem dX3_begin_1 : decode cX3_begin 1 = .ok (.aload_n 1, 1) := by decide +kernel
theorem dX3_begin_2 : decode cX3_begin 2 = .ok (.getfield 44, 3) := by decide +kernel
theorem dX3_begin_5 : decode cX3_begin 5 = .ok (.iload_n 2, 1) := by decide +kernel
theorem dX3_begin_6 : decode cX3_begin 6 = .ok (.iaload, 1) := by decide +kernel
theorem dX3_begin_7 : decode cX3_begin 7 = .ok (.putfield 49, 3) := by decide +kernel
theorem dX3_begin_10 : decode cX3_begin 10 = .ok (.aload_n 0, 1) := by decide +kernel
theorem dX3_begin_11 : decode cX3_begin 11 = .ok (.aload_n 1, 1) := by decide +kernel
theorem dX3_begin_12 : decode cX3_begin 12 = .ok (.getfield 51, 3) := by decide +kernel
theorem dX3_begin_15 : decode cX3_begin 15 = .ok (.iload_n 2, 1) := by decide +kernel
theorem dX3_begin_16 : decode cX3_begin 16 = .ok (.iaload, 1) := by decide +kernel
theorem dX3_begin_17 : decode cX3_begin 17 = .ok (.putfield 54, 3) := by decide +kernel
theorem dX3_begin_20 : decode cX3_begin 20 = .ok (.aload_n 0, 1) := by decide +kernel
theorem dX3_begin_21 : decode cX3_begin 21 = .ok (.aload_n 1, 1) := by decide +kernel
theorem dX3_begin_22 : decode cX3_begin 22 = .ok (.getfield 56, 3) := by decide +kernel
theorem dX3_begin_25 : decode cX3_begin 25 = .ok (.iload_n 2, 1) := by decide +kernel
theorem dX3_begin_26 : decode cX3_begin 26 = .ok (.iaload, 1) := by decide +kernel
theorem dX3_begin_27 : decode cX3_begin 27 = .ok (.putfield 59, 3) := by decide +kernel
theorem dX3_begin_30 : decode cX3_begin 30 = .ok (.aload_n 0, 1) := by decide +kernel
theorem dX3_begin_31 : decode cX3_begin 31 = .ok (.aload_n 1, 1) := by decide +kernel
theorem dX3_begin_32 : decode cX3_begin 32 = .ok (.getfield 61, 3) := by decide +kernel
theorem dX3_begin_35 : decode cX3_begin 35 = .ok (.iload_n 2, 1) := by decide +kernel
theorem dX3_begin_36 : decode cX3_begin 36 = .ok (.iaload, 1) := by decide +kernel
theorem dX3_begin_37 : decode cX3_begin 37 = .ok (.putfield 64, 3) := by decide +kernel
theorem dX3_begin_40 : decode cX3_begin 40 = .ok (.aload_n 0, 1) := by decide +kernel
theorem dX3_begin_41 : decode cX3_begin 41 = .ok (.iconst 0, 1) := by decide +kernel
theorem dX3_begin_42 : decode cX3_begin 42 = .ok (.putfield 66, 3) := by decide +kernel
theorem dX3_begin_45 : decode cX3_begin 45 = .ok (.aload_n 0, 1) := by decide +kernel
theorem dX3_begin_46 : decode cX3_begin 46 = .ok (.iconst 0, 1) := by decide +kernel
theorem dX3_begin_47 : decode cX3_begin 47 = .ok (.putfield 69, 3) := by decide +kernel
theorem dX3_begin_50 : decode cX3_begin 50 = .ok (.aload_n 0, 1) := by decide +kernel
theorem dX3_begin_51 : decode cX3_begin 51 = .ok (.iconst 0, 1) := by decide +kernel
theorem dX3_begin_52 : decode cX3_begin 52 = .ok (.putfield 72, 3) := by decide +kernel
theorem dX3_begin_55 : decode cX3_begin 55 = .ok (.aload_n 0, 1) := by decide +kernel
theorem dX3_begin_56 : decode cX3_begin 56 = .ok (.iconst 0, 1) := by decide +kernel
theorem dX3_begin_57 : decode cX3_begin 57 = .ok (.putfield 75, 3) := by decide +kernel
theorem dX3_begin_60 : decode cX3_begin 60 = .ok (.return_, 1) := by decide +kernel
theorem dX3_undergo_0 : decode cX3_undergo 0 = .ok (.iload_n 1, 1) := by decide +kernel
theorem dX3_undergo_1 : decode cX3_undergo 1 = .ok (.ifCond .ne 16, 3) := by decide +kernel
theorem dX3_undergo_4 : decode cX3_undergo 4 = .ok (.aload_n 0, 1) := by decide +kernel
theorem dX3_undergo_5 : decode cX3_undergo 5 = .ok (.iload_n 2, 1) := by decide +kernel
theorem dX3_undergo_6 : decode cX3_undergo 6 = .ok (.putfield 59, 3) := by decide +kernel
theorem dX3_undergo_9 : decode cX3_undergo 9 = .ok (.aload_n 0, 1) := by decide +kernel
theorem dX3_undergo_10 : decode cX3_undergo 10 = .ok (.iconst 0, 1) := by decide +kernel
theorem dX3_undergo_11 : decode cX3_undergo 11 = .ok (.putfield 69, 3) := by decide +kernel
theorem dX3_undergo_14 : decode cX3_undergo 14 = .ok (.goto 110, 3) := by decide +kernel
theorem dX3_undergo_17 : decode cX3_undergo 17 = .ok (.iload_n 1, 1) := by decide +kernel
theorem dX3_undergo_18 : decode cX3_undergo 18 = .ok (.iconst 1, 1) := by decide +kernel
theorem dX3_undergo_19 : decode cX3_undergo 19 = .ok (.if_icmp .ne 100, 3) := by decide +kernel
theorem dX3_undergo_22 : decode cX3_undergo 22 = .ok (.aload_n 0, 1) := by decide +kernel
theorem dX3_undergo_23 : decode cX3_undergo 23 = .ok (.dup, 1) := by decide +kernel
theorem dX3_undergo_24 : decode cX3_undergo 24 = .ok (.getfield 49, 3) := by decide +kernel
theorem dX3_undergo_27 : decode cX3_undergo 27 = .ok (.aload_n 0, 1) := by decide +kernel
theorem dX3_undergo_28 : decode cX3_undergo 28 = .ok (.getfield 59, 3) := by decide +kernel
theorem dX3_undergo_31 : decode cX3_undergo 31 = .ok (.getstatic 79, 3) := by decide +kernel
theorem dX3_undergo_34 : decode cX3_undergo 34 = .ok (.aload_n 0, 1) := by decide +kernel
theorem dX3_undergo_35 : decode cX3_undergo 35 = .ok (.getfield 66, 3) := by decide +kernel
theorem dX3_undergo_38 : decode cX3_undergo 38 = .ok (.iconst 3, 1) := by decide +kernel
theorem dX3_undergo_39 : decode cX3_undergo 39 = .ok (.iand, 1) := by decide +kernel
theorem dX3_undergo_40 : decode cX3_undergo 40 = .ok (.iaload, 1) := by decide +kernel
theorem dX3_undergo_41 : decode cX3_undergo 41 = .ok (.imul, 1) := by decide +kernel
theorem dX3_undergo_42 : decode cX3_undergo 42 = .ok (.iadd, 1) := by decide +kernel
theorem dX3_undergo_43 : decode cX3_undergo 43 = .ok (.putfield 49, 3) := by decide +kernel
theorem dX3_undergo_46 : decode cX3_undergo 46 = .ok (.aload_n 0, 1) := by decide +kernel
theorem dX3_undergo_47 : decode cX3_undergo 47 = .ok (.dup, 1) := by decide +kernel
theorem dX3_undergo_48 : decode cX3_undergo 48 = .ok (.getfield 54, 3) := by decide +kernel
theorem dX3_undergo_51 : decode cX3_undergo 51 = .ok (.aload_n 0, 1) := by decide +kernel
theorem dX3_undergo_52 : decode cX3_undergo 52 = .ok (.getfield 59, 3) := by decide +kernel
theorem dX3_undergo_55 : decode cX3_undergo 55 = .ok (.getstatic 82, 3) := by decide +kernel
theorem dX3_undergo_58 : decode cX3_undergo 58 = .ok (.aload_n 0, 1) := by decide +kernel
theorem dX3_undergo_59 : decode cX3_undergo 59 = .ok (.getfield 66, 3) := by decide +kernel
theorem dX3_undergo_62 : decode cX3_undergo 62 = .ok (.iconst 3, 1) := by decide +kernel
theorem dX3_undergo_63 : decode cX3_undergo 63 = .ok (.iand, 1) := by decide +kernel
theorem dX3_undergo_64 : decode cX3_undergo 64 = .ok (.iaload, 1) := by decide +kernel
theorem dX3_undergo_65 : decode cX3_undergo 65 = .ok (.imul, 1) := by decide +kernel
theorem dX3_undergo_66 : decode cX3_undergo 66 = .ok (.iadd, 1) := by decide +kernel
theorem dX3_undergo_67 : decode cX3_undergo 67 = .ok (.putfield 54, 3) := by decide +kernel
theorem dX3_undergo_70 : decode cX3_undergo 70 = .ok (.aload_n 0, 1) := by decide +kernel
theorem dX3_undergo_71 : decode cX3_undergo 71 = .ok (.aload_n 0, 1) := by decide +kernel
theorem dX3_undergo_72 : decode cX3_undergo 72 = .ok (.getfield 66, 3) := by decide +kernel
theorem dX3_undergo_75 : decode cX3_undergo 75 = .ok (.iconst 2, 1) := by decide +kernel
theorem dX3_undergo_76 : decode cX3_undergo 76 = .ok (.iadd, 1) := by decide +kernel
theorem dX3_undergo_77 : decode cX3_undergo 77 = .ok (.iconst 3, 1) := by decide +kernel
theorem dX3_undergo_78 : decode cX3_undergo 78 = .ok (.iand, 1) := by decide +kernel
theorem dX3_undergo_79 : decode cX3_undergo 79 = .ok (.putfield 66, 3) := by decide +kernel
theorem dX3_undergo_82 : decode cX3_undergo 82 = .ok (.aload_n 0, 1) := by decide +kernel
theorem dX3_undergo_83 : decode cX3_undergo 83 = .ok (.dup, 1) := by decide +kernel
theorem dX3_undergo_84 : decode cX3_undergo 84 = .ok (.getfield 72, 3) := by decide +kernel
theorem dX3_undergo_87 : decode cX3_undergo 87 = .ok (.aload_n 0, 1) := by decide +kernel
theorem dX3_undergo_88 : decode cX3_undergo 88 = .ok (.getfield 69, 3) := by decide +kernel
theorem dX3_undergo_91 : decode cX3_undergo 91 = .ok (.ifCond .le 15, 3) := by decide +kernel
theorem dX3_undergo_94 : decode cX3_undergo 94 = .ok (.aload_n 0, 1) := by decide +kernel
theorem dX3_undergo_95 : decode cX3_undergo 95 = .ok (.getfield 69, 3) := by decide +kernel
theorem dX3_undergo_98 : decode cX3_undergo 98 = .ok (.iconst 4, 1) := by decide +kernel
theorem dX3_undergo_99 : decode cX3_undergo 99 = .ok (.if_icmp .ge 7, 3) := by decide +kernel
theorem dX3_undergo_102 : decode cX3_undergo 102 = .ok (.iconst 1, 1) := by decide +kernel
theorem dX3_undergo_103 : decode cX3_undergo 103 = .ok (.goto 4, 3) := by decide +kernel
theorem dX3_undergo_106 : decode cX3_undergo 106 = .ok (.iconst 0, 1) := by decide +kernel
theorem dX3_undergo_107 : decode cX3_undergo 107 = .ok (.iadd, 1) := by decide +kernel
theorem dX3_undergo_108 : decode cX3_undergo 108 = .ok (.putfield 72, 3) := by decide +kernel
theorem dX3_undergo_111 : decode cX3_undergo 111 = .ok (.aload_n 0, 1) := by decide +kernel
theorem dX3_undergo_112 : decode cX3_undergo 112 = .ok (.iconst 0, 1) := by decide +kernel
theorem dX3_undergo_113 : decode cX3_undergo 113 = .ok (.putfield 69, 3) := by decide +kernel
theorem dX3_undergo_116 : decode cX3_undergo 116 = .ok (.goto 8, 3) := by decide +kernel
theorem dX3_undergo_119 : decode cX3_undergo 119 = .ok (.aload_n 0, 1) := by decide +kernel
theorem dX3_undergo_120 : decode cX3_undergo 120 = .ok (.iconst 1, 1) := by decide +kernel
theorem dX3_undergo_121 : decode cX3_undergo 121 = .ok (.putfield 75, 3) := by decide +kernel
theorem dX3_undergo_124 : decode cX3_undergo 124 = .ok (.return_, 1) := by decide +kernel
theorem dX3_goRound_0 : decode cX3_goRound 0 = .ok (.aload_n 0, 1) := by decide +kernel
theorem dX3_goRound_1 : decode cX3_goRound 1 = .ok (.getfield 75, 3) := by decide +kernel
theorem dX3_goRound_4 : decode cX3_goRound 4 = .ok (.ifCond .ne 10, 3) := by decide +kernel
theorem dX3_goRound_7 : decode cX3_goRound 7 = .ok (.aload_n 0, 1) := by decide +kernel
theorem dX3_goRound_8 : decode cX3_goRound 8 = .ok (.getfield 59, 3) := by decide +kernel
theorem dX3_goRound_11 : decode cX3_goRound 11 = .ok (.ifCond .ne 4, 3) := by decide +kernel
theorem dX3_goRound_14 : decode cX3_goRound 14 = .ok (.return_, 1) := by decide +kernel
theorem dX3_goRound_15 : decode cX3_goRound 15 = .ok (.iload_n 2, 1) := by decide +kernel
theorem dX3_goRound_16 : decode cX3_goRound 16 = .ok (.iload_n 1, 1) := by decide +kernel
theorem dX3_goRound_17 : decode cX3_goRound 17 = .ok (.isub, 1) := by decide +kernel
theorem dX3_goRound_18 : decode cX3_goRound 18 = .ok (.istore_n 3, 1) := by decide +kernel
theorem dX3_goRound_19 : decode cX3_goRound 19 = .ok (.aload_n 0, 1) := by decide +kernel
theorem dX3_goRound_20 : decode cX3_goRound 20 = .ok (.getfield 64, 3) := by decide +kernel
theorem dX3_goRound_23 : decode cX3_goRound 23 = .ok (.iconst 2, 1) := by decide +kernel
theorem dX3_goRound_24 : decode cX3_goRound 24 = .ok (.if_icmp .ne 10, 3) := by decide +kernel
theorem dX3_goRound_27 : decode cX3_goRound 27 = .ok (.iconst 2, 1) := by decide +kernel
theorem dX3_goRound_28 : decode cX3_goRound 28 = .ok (.iload_n 3, 1) := by decide +kernel
theorem dX3_goRound_29 : decode cX3_goRound 29 = .ok (.imul, 1) := by decide +kernel
theorem dX3_goRound_30 : decode cX3_goRound 30 = .ok (.istore_n 3, 1) := by decide +kernel
theorem dX3_goRound_31 : decode cX3_goRound 31 = .ok (.goto 22, 3) := by decide +kernel
theorem dX3_goRound_34 : decode cX3_goRound 34 = .ok (.aload_n 0, 1) := by decide +kernel
theorem dX3_goRound_35 : decode cX3_goRound 35 = .ok (.getfield 64, 3) := by decide +kernel
theorem dX3_goRound_38 : decode cX3_goRound 38 = .ok (.ifCond .ne 15, 3) := by decide +kernel
theorem dX3_goRound_41 : decode cX3_goRound 41 = .ok (.iload_n 2, 1) := by decide +kernel
theorem dX3_goRound_42 : decode cX3_goRound 42 = .ok (.iconst 1, 1) := by decide +kernel
theorem dX3_goRound_43 : decode cX3_goRound 43 = .ok (.iadd, 1) := by decide +kernel
theorem dX3_goRound_44 : decode cX3_goRound 44 = .ok (.iconst 2, 1) := by decide +kernel
theorem dX3_goRound_45 : decode cX3_goRound 45 = .ok (.idiv, 1) := by decide +kernel
theorem dX3_goRound_46 : decode cX3_goRound 46 = .ok (.iload_n 1, 1) := by decide +kernel
theorem dX3_goRound_47 : decode cX3_goRound 47 = .ok (.iconst 1, 1) := by decide +kernel
theorem dX3_goRound_48 : decode cX3_goRound 48 = .ok (.iadd, 1) := by decide +kernel
theorem dX3_goRound_49 : decode cX3_goRound 49 = .ok (.iconst 2, 1) := by decide +kernel
theorem dX3_goRound_50 : decode cX3_goRound 50 = .ok (.idiv, 1) := by decide +kernel
theorem dX3_goRound_51 : decode cX3_goRound 51 = .ok (.isub, 1) := by decide +kernel
theorem dX3_goRound_52 : decode cX3_goRound 52 = .ok (.istore_n 3, 1) := by decide +kernel
theorem dX3_goRound_53 : decode cX3_goRound 53 = .ok (.aload_n 0, 1) := by decide +kernel
theorem dX3_goRound_54 : decode cX3_goRound 54 = .ok (.aload_n 0, 1) := by decide +kernel
theorem dX3_goRound_55 : decode cX3_goRound 55 = .ok (.getfield 66, 3) := by decide +kernel
theorem dX3_goRound_58 : decode cX3_goRound 58 = .ok (.iload_n 3, 1) := by decide +kernel
theorem dX3_goRound_59 : decode cX3_goRound 59 = .ok (.iadd, 1) := by decide +kernel
theorem dX3_goRound_60 : decode cX3_goRound 60 = .ok (.iconst 3, 1) := by decide +kernel
theorem dX3_goRound_61 : decode cX3_goRound 61 = .ok (.iand, 1) := by decide +kernel
theorem dX3_goRound_62 : decode cX3_goRound 62 = .ok (.putfield 66, 3) := by decide +kernel
theorem dX3_goRound_65 : decode cX3_goRound 65 = .ok (.aload_n 0, 1) := by decide +kernel
theorem dX3_goRound_66 : decode cX3_goRound 66 = .ok (.aload_n 0, 1) := by decide +kernel
theorem dX3_goRound_67 : decode cX3_goRound 67 = .ok (.getfield 69, 3) := by decide +kernel
theorem dX3_goRound_70 : decode cX3_goRound 70 = .ok (.iload_n 3, 1) := by decide +kernel
theorem dX3_goRound_71 : decode cX3_goRound 71 = .ok (.iadd, 1) := by decide +kernel
theorem dX3_goRound_72 : decode cX3_goRound 72 = .ok (.iconst 4, 1) := by decide +kernel
theorem dX3_goRound_73 : decode cX3_goRound 73 = .ok (.if_icmp .ge 12, 3) := by decide +kernel
theorem dX3_goRound_76 : decode cX3_goRound 76 = .ok (.aload_n 0, 1) := by decide +kernel
theorem dX3_goRound_77 : decode cX3_goRound 77 = .ok (.getfield 69, 3) := by decide +kernel
theorem dX3_goRound_80 : decode cX3_goRound 80 = .ok (.iload_n 3, 1) := by decide +kernel
theorem dX3_goRound_81 : decode cX3_goRound 81 = .ok (.iadd, 1) := by decide +kernel
theorem dX3_goRound_82 : decode cX3_goRound 82 = .ok (.goto 4, 3) := by decide +kernel
theorem dX3_goRound_85 : decode cX3_goRound 85 = .ok (.iconst 4, 1) := by decide +kernel
theorem dX3_goRound_86 : decode cX3_goRound 86 = .ok (.putfield 69, 3) := by decide +kernel
theorem dX3_goRound_89 : decode cX3_goRound 89 = .ok (.return_, 1) := by decide +kernel
theorem dX3_legX_0 : decode cX3_legX 0 = .ok (.aload_n 0, 1) := by decide +kernel
theorem dX3_legX_1 : decode cX3_legX 1 = .ok (.getfield 49, 3) := by decide +kernel
theorem dX3_legX_4 : decode cX3_legX 4 = .ok (.aload_n 0, 1) := by decide +kernel
theorem dX3_legX_5 : decode cX3_legX 5 = .ok (.getfield 59, 3) := by decide +kernel
theorem dX3_legX_8 : decode cX3_legX 8 = .ok (.getstatic 79, 3) := by decide +kernel
theorem dX3_legX_11 : decode cX3_legX 11 = .ok (.aload_n 0, 1) := by decide +kernel
theorem dX3_legX_12 : decode cX3_legX 12 = .ok (.getfield 66, 3) := by decide +kernel
theorem dX3_legX_15 : decode cX3_legX 15 = .ok (.iconst 3, 1) := by decide +kernel
theorem dX3_legX_16 : decode cX3_legX 16 = .ok (.iand, 1) := by decide +kernel
theorem dX3_legX_17 : decode cX3_legX 17 = .ok (.iaload, 1) := by decide +kernel
theorem dX3_legX_18 : decode cX3_legX 18 = .ok (.imul, 1) := by decide +kernel
theorem dX3_legX_19 : decode cX3_legX 19 = .ok (.iadd, 1) := by decide +kernel
theorem dX3_legX_20 : decode cX3_legX 20 = .ok (.ireturn, 1) := by decide +kernel
theorem dX3_legY_0 : decode cX3_legY 0 = .ok (.aload_n 0, 1) := by decide +kernel
theorem dX3_legY_1 : decode cX3_legY 1 = .ok (.getfield 54, 3) := by decide +kernel
theorem dX3_legY_4 : decode cX3_legY 4 = .ok (.aload_n 0, 1) := by decide +kernel
theorem dX3_legY_5 : decode cX3_legY 5 = .ok (.getfield 59, 3) := by decide +kernel
theorem dX3_legY_8 : decode cX3_legY 8 = .ok (.getstatic 82, 3) := by decide +kernel
theorem dX3_legY_11 : decode cX3_legY 11 = .ok (.aload_n 0, 1) := by decide +kernel
theorem dX3_legY_12 : decode cX3_legY 12 = .ok (.getfield 66, 3) := by decide +kernel
theorem dX3_legY_15 : decode cX3_legY 15 = .ok (.iconst 3, 1) := by decide +kernel
theorem dX3_legY_16 : decode cX3_legY 16 = .ok (.iand, 1) := by decide +kernel
theorem dX3_legY_17 : decode cX3_legY 17 = .ok (.iaload, 1) := by decide +kernel
theorem dX3_legY_18 : decode cX3_legY 18 = .ok (.imul, 1) := by decide +kernel
theorem dX3_legY_19 : decode cX3_legY 19 = .ok (.iadd, 1) := by decide +kernel
theorem dX3_legY_20 : decode cX3_legY 20 = .ok (.ireturn, 1) := by decide +kernel
theorem dX3_isClosed_0 : decode cX3_isClosed 0 = .ok (.aload_n 0, 1) := by decide +kernel
theorem dX3_isClosed_1 : decode cX3_isClosed 1 = .ok (.getfield 69, 3) := by decide +kernel
theorem dX3_isClosed_4 : decode cX3_isClosed 4 = .ok (.iconst 4, 1) := by decide +kernel
theorem dX3_isClosed_5 : decode cX3_isClosed 5 = .ok (.if_icmp .ne 7, 3) := by decide +kernel
theorem dX3_isClosed_8 : decode cX3_isClosed 8 = .ok (.iconst 1, 1) := by decide +kernel
theorem dX3_isClosed_9 : decode cX3_isClosed 9 = .ok (.goto 4, 3) := by decide +kernel
theorem dX3_isClosed_12 : decode cX3_isClosed 12 = .ok (.iconst 0, 1) := by decide +kernel
theorem dX3_isClosed_13 : decode cX3_isClosed 13 = .ok (.ireturn, 1) := by decide +kernel
theorem dX3_meetsLegOf_0 : decode cX3_meetsLegOf 0 = .ok (.aload_n 0, 1) := by decide +kernel
theorem dX3_meetsLegOf_1 : decode cX3_meetsLegOf 1 = .ok (.invokevirtual 85, 3) := by decide +kernel
theorem dX3_meetsLegOf_4 : decode cX3_meetsLegOf 4 = .ok (.aload_n 1, 1) := by decide +kernel
theorem dX3_meetsLegOf_5 : decode cX3_meetsLegOf 5 = .ok (.invokevirtual 85, 3) := by decide +kernel
theorem dX3_meetsLegOf_8 : decode cX3_meetsLegOf 8 = .ok (.if_icmp .ne 18, 3) := by decide +kernel
theorem dX3_meetsLegOf_11 : decode cX3_meetsLegOf 11 = .ok (.aload_n 0, 1) := by decide +kernel
theorem dX3_meetsLegOf_12 : decode cX3_meetsLegOf 12 = .ok (.invokevirtual 89, 3) := by decide +kernel
theorem dX3_meetsLegOf_15 : decode cX3_meetsLegOf 15 = .ok (.aload_n 1, 1) := by decide +kernel
theorem dX3_meetsLegOf_16 : decode cX3_meetsLegOf 16 = .ok (.invokevirtual 89, 3) := by decide +kernel
theorem dX3_meetsLegOf_19 : decode cX3_meetsLegOf 19 = .ok (.if_icmp .ne 7, 3) := by decide +kernel
theorem dX3_meetsLegOf_22 : decode cX3_meetsLegOf 22 = .ok (.iconst 1, 1) := by decide +kernel
theorem dX3_meetsLegOf_23 : decode cX3_meetsLegOf 23 = .ok (.goto 4, 3) := by decide +kernel
theorem dX3_meetsLegOf_26 : decode cX3_meetsLegOf 26 = .ok (.iconst 0, 1) := by decide +kernel
theorem dX3_meetsLegOf_27 : decode cX3_meetsLegOf 27 = .ok (.ireturn, 1) := by decide +kernel
theorem dX3_isAny_0 : decode cX3_isAny 0 = .ok (.iload_n 1, 1) := by decide +kernel
theorem dX3_isAny_1 : decode cX3_isAny 1 = .ok (.aload_n 0, 1) := by decide +kernel
theorem dX3_isAny_2 : decode cX3_isAny 2 = .ok (.aload_n 2, 1) := by decide +kernel
theorem dX3_isAny_3 : decode cX3_isAny 3 = .ok (.invokevirtual 92, 3) := by decide +kernel
theorem dX3_isAny_6 : decode cX3_isAny 6 = .ok (.ishr, 1) := by decide +kernel
theorem dX3_isAny_7 : decode cX3_isAny 7 = .ok (.iconst 1, 1) := by decide +kernel
theorem dX3_isAny_8 : decode cX3_isAny 8 = .ok (.iand, 1) := by decide +kernel
theorem dX3_isAny_9 : decode cX3_isAny 9 = .ok (.iconst 1, 1) := by decide +kernel
theorem dX3_isAny_10 : decode cX3_isAny 10 = .ok (.if_icmp .ne 7, 3) := by decide +kernel
theorem dX3_isAny_13 : decode cX3_isAny 13 = .ok (.iconst 1, 1) := by decide +kernel
theorem dX3_isAny_14 : decode cX3_isAny 14 = .ok (.goto 4, 3) := by decide +kernel
theorem dX3_isAny_17 : decode cX3_isAny 17 = .ok (.iconst 0, 1) := by decide +kernel
theorem dX3_isAny_18 : decode cX3_isAny 18 = .ok (.ireturn, 1) := by decide +kernel
theorem dX3_against_0 : decode cX3_against 0 = .ok (.aload_n 0, 1) := by decide +kernel
theorem dX3_against_1 : decode cX3_against 1 = .ok (.getfield 49, 3) := by decide +kernel
theorem dX3_against_4 : decode cX3_against 4 = .ok (.aload_n 1, 1) := by decide +kernel
theorem dX3_against_5 : decode cX3_against 5 = .ok (.getfield 49, 3) := by decide +kernel
theorem dX3_against_8 : decode cX3_against 8 = .ok (.isub, 1) := by decide +kernel
theorem dX3_against_9 : decode cX3_against 9 = .ok (.istore_n 2, 1) := by decide +kernel
theorem dX3_against_10 : decode cX3_against 10 = .ok (.aload_n 0, 1) := by decide +kernel
theorem dX3_against_11 : decode cX3_against 11 = .ok (.getfield 54, 3) := by decide +kernel
theorem dX3_against_14 : decode cX3_against 14 = .ok (.aload_n 1, 1) := by decide +kernel
theorem dX3_against_15 : decode cX3_against 15 = .ok (.getfield 54, 3) := by decide +kernel
theorem dX3_against_18 : decode cX3_against 18 = .ok (.isub, 1) := by decide +kernel
theorem dX3_against_19 : decode cX3_against 19 = .ok (.istore_n 3, 1) := by decide +kernel
theorem dX3_against_20 : decode cX3_against 20 = .ok (.iload_n 2, 1) := by decide +kernel
theorem dX3_against_21 : decode cX3_against 21 = .ok (.iload_n 2, 1) := by decide +kernel
theorem dX3_against_22 : decode cX3_against 22 = .ok (.imul, 1) := by decide +kernel
theorem dX3_against_23 : decode cX3_against 23 = .ok (.iload_n 3, 1) := by decide +kernel
theorem dX3_against_24 : decode cX3_against 24 = .ok (.iload_n 3, 1) := by decide +kernel
theorem dX3_against_25 : decode cX3_against 25 = .ok (.imul, 1) := by decide +kernel
theorem dX3_against_26 : decode cX3_against 26 = .ok (.iadd, 1) := by decide +kernel
theorem dX3_against_27 : decode cX3_against 27 = .ok (.istore 4, 2) := by decide +kernel
theorem dX3_against_29 : decode cX3_against 29 = .ok (.iload 4, 2) := by decide +kernel
theorem dX3_against_31 : decode cX3_against 31 = .ok (.ifCond .ne 16, 3) := by decide +kernel
theorem dX3_against_34 : decode cX3_against 34 = .ok (.aload_n 0, 1) := by decide +kernel
theorem dX3_against_35 : decode cX3_against 35 = .ok (.getfield 59, 3) := by decide +kernel
theorem dX3_against_38 : decode cX3_against 38 = .ok (.aload_n 1, 1) := by decide +kernel
theorem dX3_against_39 : decode cX3_against 39 = .ok (.getfield 59, 3) := by decide +kernel
theorem dX3_against_42 : decode cX3_against 42 = .ok (.if_icmp .ne 5, 3) := by decide +kernel
theorem dX3_against_45 : decode cX3_against 45 = .ok (.iconst 5, 1) := by decide +kernel
theorem dX3_against_46 : decode cX3_against 46 = .ok (.ireturn, 1) := by decide +kernel
theorem dX3_against_47 : decode cX3_against 47 = .ok (.aload_n 0, 1) := by decide +kernel
theorem dX3_against_48 : decode cX3_against 48 = .ok (.getfield 59, 3) := by decide +kernel
theorem dX3_against_51 : decode cX3_against 51 = .ok (.aload_n 1, 1) := by decide +kernel
theorem dX3_against_52 : decode cX3_against 52 = .ok (.getfield 59, 3) := by decide +kernel
theorem dX3_against_55 : decode cX3_against 55 = .ok (.iadd, 1) := by decide +kernel
theorem dX3_against_56 : decode cX3_against 56 = .ok (.istore 5, 2) := by decide +kernel
theorem dX3_against_58 : decode cX3_against 58 = .ok (.iload 5, 2) := by decide +kernel
theorem dX3_against_60 : decode cX3_against 60 = .ok (.iload 5, 2) := by decide +kernel
theorem dX3_against_62 : decode cX3_against 62 = .ok (.imul, 1) := by decide +kernel
theorem dX3_against_63 : decode cX3_against 63 = .ok (.istore 6, 2) := by decide +kernel
theorem dX3_against_65 : decode cX3_against 65 = .ok (.iload 4, 2) := by decide +kernel
theorem dX3_against_67 : decode cX3_against 67 = .ok (.iload 6, 2) := by decide +kernel
theorem dX3_against_69 : decode cX3_against 69 = .ok (.if_icmp .lt 16, 3) := by decide +kernel
theorem dX3_against_72 : decode cX3_against 72 = .ok (.iload 4, 2) := by decide +kernel
theorem dX3_against_74 : decode cX3_against 74 = .ok (.iload 6, 2) := by decide +kernel
theorem dX3_against_76 : decode cX3_against 76 = .ok (.if_icmp .ne 7, 3) := by decide +kernel
theorem dX3_against_79 : decode cX3_against 79 = .ok (.iconst 1, 1) := by decide +kernel
theorem dX3_against_80 : decode cX3_against 80 = .ok (.goto 4, 3) := by decide +kernel
theorem dX3_against_83 : decode cX3_against 83 = .ok (.iconst 0, 1) := by decide +kernel
theorem dX3_against_84 : decode cX3_against 84 = .ok (.ireturn, 1) := by decide +kernel
theorem dX3_against_85 : decode cX3_against 85 = .ok (.aload_n 0, 1) := by decide +kernel
theorem dX3_against_86 : decode cX3_against 86 = .ok (.getfield 59, 3) := by decide +kernel
theorem dX3_against_89 : decode cX3_against 89 = .ok (.aload_n 1, 1) := by decide +kernel
theorem dX3_against_90 : decode cX3_against 90 = .ok (.getfield 59, 3) := by decide +kernel
theorem dX3_against_93 : decode cX3_against 93 = .ok (.isub, 1) := by decide +kernel
theorem dX3_against_94 : decode cX3_against 94 = .ok (.istore 7, 2) := by decide +kernel
theorem dX3_against_96 : decode cX3_against 96 = .ok (.iload 7, 2) := by decide +kernel
theorem dX3_against_98 : decode cX3_against 98 = .ok (.iload 7, 2) := by decide +kernel
theorem dX3_against_100 : decode cX3_against 100 = .ok (.imul, 1) := by decide +kernel
theorem dX3_against_101 : decode cX3_against 101 = .ok (.istore 8, 2) := by decide +kernel
theorem dX3_against_103 : decode cX3_against 103 = .ok (.iload 4, 2) := by decide +kernel
theorem dX3_against_105 : decode cX3_against 105 = .ok (.iload 8, 2) := by decide +kernel
theorem dX3_against_107 : decode cX3_against 107 = .ok (.if_icmp .gt 16, 3) := by decide +kernel
theorem dX3_against_110 : decode cX3_against 110 = .ok (.iload 4, 2) := by decide +kernel
theorem dX3_against_112 : decode cX3_against 112 = .ok (.iload 8, 2) := by decide +kernel
theorem dX3_against_114 : decode cX3_against 114 = .ok (.if_icmp .ne 7, 3) := by decide +kernel
theorem dX3_against_117 : decode cX3_against 117 = .ok (.iconst 3, 1) := by decide +kernel
theorem dX3_against_118 : decode cX3_against 118 = .ok (.goto 4, 3) := by decide +kernel
theorem dX3_against_121 : decode cX3_against 121 = .ok (.iconst 4, 1) := by decide +kernel
theorem dX3_against_122 : decode cX3_against 122 = .ok (.ireturn, 1) := by decide +kernel
theorem dX3_against_123 : decode cX3_against 123 = .ok (.iconst 2, 1) := by decide +kernel
theorem dX3_against_124 : decode cX3_against 124 = .ok (.ireturn, 1) := by decide +kernel
theorem dX4_init_0 : decode cX4_init 0 = .ok (.aload_n 0, 1) := by decide +kernel
theorem dX4_init_1 : decode cX4_init 1 = .ok (.invokespecial 3, 3) := by decide +kernel
theorem dX4_init_4 : decode cX4_init 4 = .ok (.aload_n 0, 1) := by decide +kernel
theorem dX4_init_5 : decode cX4_init 5 = .ok (.bipush 60, 2) := by decide +kernel
theorem dX4_init_7 : decode cX4_init 7 = .ok (.newarray .int, 2) := by decide +kernel
theorem dX4_init_9 : decode cX4_init 9 = .ok (.putfield 9, 3) := by decide +kernel
theorem dX4_init_12 : decode cX4_init 12 = .ok (.aload_n 0, 1) := by decide +kernel
theorem dX4_init_13 : decode cX4_init 13 = .ok (.iconst 1, 1) := by decide +kernel
theorem dX4_init_14 : decode cX4_init 14 = .ok (.putfield 15, 3) := by decide +kernel
theorem dX4_init_17 : decode cX4_init 17 = .ok (.return_, 1) := by decide +kernel
theorem dX4_renew_0 : decode cX4_renew 0 = .ok (.aload_n 0, 1) := by decide +kernel
theorem dX4_renew_1 : decode cX4_renew 1 = .ok (.iconst 0, 1) := by decide +kernel
theorem dX4_renew_2 : decode cX4_renew 2 = .ok (.putfield 15, 3) := by decide +kernel
theorem dX4_renew_5 : decode cX4_renew 5 = .ok (.aload_n 0, 1) := by decide +kernel
theorem dX4_renew_6 : decode cX4_renew 6 = .ok (.iload_n 1, 1) := by decide +kernel
theorem dX4_renew_7 : decode cX4_renew 7 = .ok (.putfield 19, 3) := by decide +kernel
theorem dX4_renew_10 : decode cX4_renew 10 = .ok (.aload_n 0, 1) := by decide +kernel
theorem dX4_renew_11 : decode cX4_renew 11 = .ok (.iload_n 2, 1) := by decide +kernel
theorem dX4_renew_12 : decode cX4_renew 12 = .ok (.putfield 23, 3) := by decide +kernel
theorem dX4_renew_15 : decode cX4_renew 15 = .ok (.iconst 0, 1) := by decide +kernel
theorem dX4_renew_16 : decode cX4_renew 16 = .ok (.istore_n 3, 1) := by decide +kernel
theorem dX4_renew_17 : decode cX4_renew 17 = .ok (.iload_n 3, 1) := by decide +kernel
theorem dX4_renew_18 : decode cX4_renew 18 = .ok (.bipush 60, 2) := by decide +kernel
theorem dX4_renew_20 : decode cX4_renew 20 = .ok (.if_icmp .ge 16, 3) := by decide +kernel
theorem dX4_renew_23 : decode cX4_renew 23 = .ok (.aload_n 0, 1) := by decide +kernel
theorem dX4_renew_24 : decode cX4_renew 24 = .ok (.getfield 9, 3) := by decide +kernel
theorem dX4_renew_27 : decode cX4_renew 27 = .ok (.iload_n 3, 1) := by decide +kernel
theorem dX4_renew_28 : decode cX4_renew 28 = .ok (.iconst 0, 1) := by decide +kernel
theorem dX4_renew_29 : decode cX4_renew 29 = .ok (.iastore, 1) := by decide +kernel
theorem dX4_renew_30 : decode cX4_renew 30 = .ok (.iinc 3 1, 3) := by decide +kernel
theorem dX4_renew_33 : decode cX4_renew 33 = .ok (.goto (-16), 3) := by decide +kernel
theorem dX4_renew_36 : decode cX4_renew 36 = .ok (.return_, 1) := by decide +kernel
theorem dX4_wrongWith_0 : decode cX4_wrongWith 0 = .ok (.aload_n 0, 1) := by decide +kernel
theorem dX4_wrongWith_1 : decode cX4_wrongWith 1 = .ok (.getfield 15, 3) := by decide +kernel
theorem dX4_wrongWith_4 : decode cX4_wrongWith 4 = .ok (.ifCond .eq 5, 3) := by decide +kernel
theorem dX4_wrongWith_7 : decode cX4_wrongWith 7 = .ok (.iconst 1, 1) := by decide +kernel
theorem dX4_wrongWith_8 : decode cX4_wrongWith 8 = .ok (.ireturn, 1) := by decide +kernel
theorem dX4_wrongWith_9 : decode cX4_wrongWith 9 = .ok (.aload_n 0, 1) := by decide +kernel
theorem dX4_wrongWith_10 : decode cX4_wrongWith 10 = .ok (.getfield 19, 3) := by decide +kernel
theorem dX4_wrongWith_13 : decode cX4_wrongWith 13 = .ok (.iload_n 1, 1) := by decide +kernel
theorem dX4_wrongWith_14 : decode cX4_wrongWith 14 = .ok (.if_icmp .eq 5, 3) := by decide +kernel
theorem dX4_wrongWith_17 : decode cX4_wrongWith 17 = .ok (.iconst 3, 1) := by decide +kernel
theorem dX4_wrongWith_18 : decode cX4_wrongWith 18 = .ok (.ireturn, 1) := by decide +kernel
theorem dX4_wrongWith_19 : decode cX4_wrongWith 19 = .ok (.iload_n 2, 1) := by decide +kernel
theorem dX4_wrongWith_20 : decode cX4_wrongWith 20 = .ok (.ifCond .lt 11, 3) := by decide +kernel
theorem dX4_wrongWith_23 : decode cX4_wrongWith 23 = .ok (.iload_n 2, 1) := by decide +kernel
theorem dX4_wrongWith_24 : decode cX4_wrongWith 24 = .ok (.aload_n 0, 1) := by decide +kernel
theorem dX4_wrongWith_25 : decode cX4_wrongWith 25 = .ok (.getfield 23, 3) := by decide +kernel
theorem dX4_wrongWith_28 : decode cX4_wrongWith 28 = .ok (.if_icmp .lt 7, 3) := by decide +kernel
theorem dX4_wrongWith_31 : decode cX4_wrongWith 31 = .ok (.iconst 2, 1) := by decide +kernel
theorem dX4_wrongWith_32 : decode cX4_wrongWith 32 = .ok (.goto 4, 3) := by decide +kernel
theorem dX4_wrongWith_35 : decode cX4_wrongWith 35 = .ok (.iconst 0, 1) := by decide +kernel
theorem dX4_wrongWith_36 : decode cX4_wrongWith 36 = .ok (.ireturn, 1) := by decide +kernel
theorem dX4_hasItems_0 : decode cX4_hasItems 0 = .ok (.iload_n 1, 1) := by decide +kernel
theorem dX4_hasItems_1 : decode cX4_hasItems 1 = .ok (.ifCond .lt 21, 3) := by decide +kernel
theorem dX4_hasItems_4 : decode cX4_hasItems 4 = .ok (.iload_n 2, 1) := by decide +kernel
theorem dX4_hasItems_5 : decode cX4_hasItems 5 = .ok (.ifCond .lt 17, 3) := by decide +kernel
theorem dX4_hasItems_8 : decode cX4_hasItems 8 = .ok (.iload_n 2, 1) := by decide +kernel
theorem dX4_hasItems_9 : decode cX4_hasItems 9 = .ok (.aload_n 0, 1) := by decide +kernel
theorem dX4_hasItems_10 : decode cX4_hasItems 10 = .ok (.getfield 23, 3) := by decide +kernel
theorem dX4_hasItems_13 : decode cX4_hasItems 13 = .ok (.iload_n 1, 1) := by decide +kernel
theorem dX4_hasItems_14 : decode cX4_hasItems 14 = .ok (.isub, 1) := by decide +kernel
theorem dX4_hasItems_15 : decode cX4_hasItems 15 = .ok (.if_icmp .gt 7, 3) := by decide +kernel
theorem dX4_hasItems_18 : decode cX4_hasItems 18 = .ok (.iconst 1, 1) := by decide +kernel
theorem dX4_hasItems_19 : decode cX4_hasItems 19 = .ok (.goto 4, 3) := by decide +kernel
theorem dX4_hasItems_22 : decode cX4_hasItems 22 = .ok (.iconst 0, 1) := by decide +kernel
theorem dX4_hasItems_23 : decode cX4_hasItems 23 = .ok (.ireturn, 1) := by decide +kernel
theorem dX4_lowestBits_0 : decode cX4_lowestBits 0 = .ok (.iload_n 0, 1) := by decide +kernel
theorem dX4_lowestBits_1 : decode cX4_lowestBits 1 = .ok (.ifCond .ne 8, 3) := by decide +kernel
theorem dX4_lowestBits_4 : decode cX4_lowestBits 4 = .ok (.iload_n 1, 1) := by decide +kernel
theorem dX4_lowestBits_5 : decode cX4_lowestBits 5 = .ok (.i2b, 1) := by decide +kernel
theorem dX4_lowestBits_6 : decode cX4_lowestBits 6 = .ok (.goto 14, 3) := by decide +kernel
theorem dX4_lowestBits_9 : decode cX4_lowestBits 9 = .ok (.iload_n 0, 1) := by decide +kernel
theorem dX4_lowestBits_10 : decode cX4_lowestBits 10 = .ok (.iconst 1, 1) := by decide +kernel
theorem dX4_lowestBits_11 : decode cX4_lowestBits 11 = .ok (.if_icmp .ne 8, 3) := by decide +kernel
theorem dX4_lowestBits_14 : decode cX4_lowestBits 14 = .ok (.iload_n 1, 1) := by decide +kernel
theorem dX4_lowestBits_15 : decode cX4_lowestBits 15 = .ok (.i2s, 1) := by decide +kernel
theorem dX4_lowestBits_16 : decode cX4_lowestBits 16 = .ok (.goto 4, 3) := by decide +kernel
theorem dX4_lowestBits_19 : decode cX4_lowestBits 19 = .ok (.iload_n 1, 1) := by decide +kernel
theorem dX4_lowestBits_20 : decode cX4_lowestBits 20 = .ok (.ireturn, 1) := by decide +kernel
theorem dX5_init_0 : decode cX5_init 0 = .ok (.aload_n 0, 1) := by decide +kernel
theorem dX5_init_1 : decode cX5_init 1 = .ok (.invokespecial 3, 3) := by decide +kernel
theorem dX5_init_4 : decode cX5_init 4 = .ok (.aload_n 0, 1) := by decide +kernel
theorem dX5_init_5 : decode cX5_init 5 = .ok (.bipush 8, 2) := by decide +kernel
theorem dX5_init_7 : decode cX5_init 7 = .ok (.newarray .int, 2) := by decide +kernel
theorem dX5_init_9 : decode cX5_init 9 = .ok (.putfield 9, 3) := by decide +kernel
theorem dX5_init_12 : decode cX5_init 12 = .ok (.aload_n 0, 1) := by decide +kernel
theorem dX5_init_13 : decode cX5_init 13 = .ok (.bipush 8, 2) := by decide +kernel
theorem dX5_init_15 : decode cX5_init 15 = .ok (.newarray .int, 2) := by decide +kernel
theorem dX5_init_17 : decode cX5_init 17 = .ok (.putfield 15, 3) := by decide +kernel
theorem dX5_init_20 : decode cX5_init 20 = .ok (.aload_n 0, 1) := by decide +kernel
theorem dX5_init_21 : decode cX5_init 21 = .ok (.bipush 8, 2) := by decide +kernel
theorem dX5_init_23 : decode cX5_init 23 = .ok (.newarray .int, 2) := by decide +kernel
theorem dX5_init_25 : decode cX5_init 25 = .ok (.putfield 18, 3) := by decide +kernel
theorem dX5_init_28 : decode cX5_init 28 = .ok (.aload_n 0, 1) := by decide +kernel
theorem dX5_init_29 : decode cX5_init 29 = .ok (.bipush 8, 2) := by decide +kernel
theorem dX5_init_31 : decode cX5_init 31 = .ok (.newarray .int, 2) := by decide +kernel
theorem dX5_init_33 : decode cX5_init 33 = .ok (.putfield 21, 3) := by decide +kernel
theorem dX5_init_36 : decode cX5_init 36 = .ok (.return_, 1) := by decide +kernel
theorem dX5_isFull_0 : decode cX5_isFull 0 = .ok (.aload_n 0, 1) := by decide +kernel
theorem dX5_isFull_1 : decode cX5_isFull 1 = .ok (.getfield 24, 3) := by decide +kernel
theorem dX5_isFull_4 : decode cX5_isFull 4 = .ok (.bipush 8, 2) := by decide +kernel
theorem dX5_isFull_6 : decode cX5_isFull 6 = .ok (.if_icmp .lt 7, 3) := by decide +kernel
theorem dX5_isFull_9 : decode cX5_isFull 9 = .ok (.iconst 1, 1) := by decide +kernel
theorem dX5_isFull_10 : decode cX5_isFull 10 = .ok (.goto 4, 3) := by decide +kernel
theorem dX5_isFull_13 : decode cX5_isFull 13 = .ok (.iconst 0, 1) := by decide +kernel
theorem dX5_isFull_14 : decode cX5_isFull 14 = .ok (.ireturn, 1) := by decide +kernel
theorem dX5_note_0 : decode cX5_note 0 = .ok (.aload_n 0, 1) := by decide +kernel
theorem dX5_note_1 : decode cX5_note 1 = .ok (.invokevirtual 28, 3) := by decide +kernel
theorem dX5_note_4 : decode cX5_note 4 = .ok (.ifCond .eq 4, 3) := by decide +kernel
theorem dX5_note_7 : decode cX5_note 7 = .ok (.return_, 1) := by decide +kernel
theorem dX5_note_8 : decode cX5_note 8 = .ok (.aload_n 0, 1) := by decide +kernel
theorem dX5_note_9 : decode cX5_note 9 = .ok (.getfield 9, 3) := by decide +kernel
theorem dX5_note_12 : decode cX5_note 12 = .ok (.aload_n 0, 1) := by decide +kernel
theorem dX5_note_13 : decode cX5_note 13 = .ok (.getfield 24, 3) := by decide +kernel
theorem dX5_note_16 : decode cX5_note 16 = .ok (.iload_n 1, 1) := by decide +kernel
theorem dX5_note_17 : decode cX5_note 17 = .ok (.iastore, 1) := by decide +kernel
theorem dX5_note_18 : decode cX5_note 18 = .ok (.aload_n 0, 1) := by decide +kernel
theorem dX5_note_19 : decode cX5_note 19 = .ok (.getfield 15, 3) := by decide +kernel
theorem dX5_note_22 : decode cX5_note 22 = .ok (.aload_n 0, 1) := by decide +kernel
theorem dX5_note_23 : decode cX5_note 23 = .ok (.getfield 24, 3) := by decide +kernel
theorem dX5_note_26 : decode cX5_note 26 = .ok (.iload_n 2, 1) := by decide +kernel
theorem dX5_note_27 : decode cX5_note 27 = .ok (.iastore, 1) := by decide +kernel
theorem dX5_note_28 : decode cX5_note 28 = .ok (.aload_n 0, 1) := by decide +kernel
theorem dX5_note_29 : decode cX5_note 29 = .ok (.getfield 18, 3) := by decide +kernel
theorem dX5_note_32 : decode cX5_note 32 = .ok (.aload_n 0, 1) := by decide +kernel
theorem dX5_note_33 : decode cX5_note 33 = .ok (.getfield 24, 3) := by decide +kernel
theorem dX5_note_36 : decode cX5_note 36 = .ok (.iload_n 3, 1) := by decide +kernel
theorem dX5_note_37 : decode cX5_note 37 = .ok (.iastore, 1) := by decide +kernel
theorem dX5_note_38 : decode cX5_note 38 = .ok (.aload_n 0, 1) := by decide +kernel
theorem dX5_note_39 : decode cX5_note 39 = .ok (.getfield 21, 3) := by decide +kernel
theorem dX5_note_42 : decode cX5_note 42 = .ok (.aload_n 0, 1) := by decide +kernel
theorem dX5_note_43 : decode cX5_note 43 = .ok (.getfield 24, 3) := by decide +kernel
theorem dX5_note_46 : decode cX5_note 46 = .ok (.iload 4, 2) := by decide +kernel
theorem dX5_note_48 : decode cX5_note 48 = .ok (.iastore, 1) := by decide +kernel
theorem dX5_note_49 : decode cX5_note 49 = .ok (.aload_n 0, 1) := by decide +kernel
theorem dX5_note_50 : decode cX5_note 50 = .ok (.dup, 1) := by decide +kernel
theorem dX5_note_51 : decode cX5_note 51 = .ok (.getfield 24, 3) := by decide +kernel
theorem dX5_note_54 : decode cX5_note 54 = .ok (.iconst 1, 1) := by decide +kernel
theorem dX5_note_55 : decode cX5_note 55 = .ok (.iadd, 1) := by decide +kernel
theorem dX5_note_56 : decode cX5_note 56 = .ok (.putfield 24, 3) := by decide +kernel
theorem dX5_note_59 : decode cX5_note 59 = .ok (.return_, 1) := by decide +kernel
theorem dX5_comeOut_0 : decode cX5_comeOut 0 = .ok (.iconst 0, 1) := by decide +kernel
theorem dX5_comeOut_1 : decode cX5_comeOut 1 = .ok (.istore 5, 2) := by decide +kernel
theorem dX5_comeOut_3 : decode cX5_comeOut 3 = .ok (.iload 5, 2) := by decide +kernel
theorem dX5_comeOut_5 : decode cX5_comeOut 5 = .ok (.aload_n 0, 1) := by decide +kernel
theorem dX5_comeOut_6 : decode cX5_comeOut 6 = .ok (.getfield 24, 3) := by decide +kernel
theorem dX5_comeOut_9 : decode cX5_comeOut 9 = .ok (.if_icmp .ge 79, 3) := by decide +kernel
theorem dX5_comeOut_12 : decode cX5_comeOut 12 = .ok (.aload_n 1, 1) := by decide +kernel
theorem dX5_comeOut_13 : decode cX5_comeOut 13 = .ok (.aload_n 0, 1) := by decide +kernel
theorem dX5_comeOut_14 : decode cX5_comeOut 14 = .ok (.getfield 15, 3) := by decide +kernel
theorem dX5_comeOut_17 : decode cX5_comeOut 17 = .ok (.iload 5, 2) := by decide +kernel
theorem dX5_comeOut_19 : decode cX5_comeOut 19 = .ok (.iaload, 1) := by decide +kernel
theorem dX5_comeOut_20 : decode cX5_comeOut 20 = .ok (.invokevirtual 32, 3) := by decide +kernel
theorem dX5_comeOut_23 : decode cX5_comeOut 23 = .ok (.ifCond .ne 5, 3) := by decide +kernel
theorem dX5_comeOut_26 : decode cX5_comeOut 26 = .ok (.iconst 0, 1) := by decide +kernel
theorem dX5_comeOut_27 : decode cX5_comeOut 27 = .ok (.ireturn, 1) := by decide +kernel
theorem dX5_comeOut_28 : decode cX5_comeOut 28 = .ok (.aload 4, 2) := by decide +kernel
theorem dX5_comeOut_30 : decode cX5_comeOut 30 = .ok (.aload_n 1, 1) := by decide +kernel
theorem dX5_comeOut_31 : decode cX5_comeOut 31 = .ok (.aload_n 2, 1) := by decide +kernel
theorem dX5_comeOut_32 : decode cX5_comeOut 32 = .ok (.iload_n 3, 1) := by decide +kernel
theorem dX5_comeOut_33 : decode cX5_comeOut 33 = .ok (.aload_n 0, 1) := by decide +kernel
theorem dX5_comeOut_34 : decode cX5_comeOut 34 = .ok (.getfield 15, 3) := by decide +kernel
theorem dX5_comeOut_37 : decode cX5_comeOut 37 = .ok (.iload 5, 2) := by decide +kernel
theorem dX5_comeOut_39 : decode cX5_comeOut 39 = .ok (.iaload, 1) := by decide +kernel
theorem dX5_comeOut_40 : decode cX5_comeOut 40 = .ok (.aload_n 0, 1) := by decide +kernel
theorem dX5_comeOut_41 : decode cX5_comeOut 41 = .ok (.getfield 9, 3) := by decide +kernel
theorem dX5_comeOut_44 : decode cX5_comeOut 44 = .ok (.iload 5, 2) := by decide +kernel
theorem dX5_comeOut_46 : decode cX5_comeOut 46 = .ok (.iaload, 1) := by decide +kernel
theorem dX5_comeOut_47 : decode cX5_comeOut 47 = .ok (.invokevirtual 38, 3) := by decide +kernel
theorem dX5_comeOut_50 : decode cX5_comeOut 50 = .ok (.aload 4, 2) := by decide +kernel
theorem dX5_comeOut_52 : decode cX5_comeOut 52 = .ok (.invokevirtual 44, 3) := by decide +kernel
theorem dX5_comeOut_55 : decode cX5_comeOut 55 = .ok (.aload_n 0, 1) := by decide +kernel
theorem dX5_comeOut_56 : decode cX5_comeOut 56 = .ok (.getfield 18, 3) := by decide +kernel
theorem dX5_comeOut_59 : decode cX5_comeOut 59 = .ok (.iload 5, 2) := by decide +kernel
theorem dX5_comeOut_61 : decode cX5_comeOut 61 = .ok (.iaload, 1) := by decide +kernel
theorem dX5_comeOut_62 : decode cX5_comeOut 62 = .ok (.if_icmp .ne 18, 3) := by decide +kernel
theorem dX5_comeOut_65 : decode cX5_comeOut 65 = .ok (.aload 4, 2) := by decide +kernel
theorem dX5_comeOut_67 : decode cX5_comeOut 67 = .ok (.invokevirtual 48, 3) := by decide +kernel
theorem dX5_comeOut_70 : decode cX5_comeOut 70 = .ok (.aload_n 0, 1) := by decide +kernel
theorem dX5_comeOut_71 : decode cX5_comeOut 71 = .ok (.getfield 21, 3) := by decide +kernel
theorem dX5_comeOut_74 : decode cX5_comeOut 74 = .ok (.iload 5, 2) := by decide +kernel
theorem dX5_comeOut_76 : decode cX5_comeOut 76 = .ok (.iaload, 1) := by decide +kernel
theorem dX5_comeOut_77 : decode cX5_comeOut 77 = .ok (.if_icmp .eq 5, 3) := by decide +kernel
theorem dX5_comeOut_80 : decode cX5_comeOut 80 = .ok (.iconst 0, 1) := by decide +kernel
theorem dX5_comeOut_81 : decode cX5_comeOut 81 = .ok (.ireturn, 1) := by decide +kernel
theorem dX5_comeOut_82 : decode cX5_comeOut 82 = .ok (.iinc 5 1, 3) := by decide +kernel
theorem dX5_comeOut_85 : decode cX5_comeOut 85 = .ok (.goto (-82), 3) := by decide +kernel
theorem dX5_comeOut_88 : decode cX5_comeOut 88 = .ok (.iconst 1, 1) := by decide +kernel
theorem dX5_comeOut_89 : decode cX5_comeOut 89 = .ok (.ireturn, 1) := by decide +kernel
theorem dX6_init_0 : decode cX6_init 0 = .ok (.aload_n 0, 1) := by decide +kernel
theorem dX6_init_1 : decode cX6_init 1 = .ok (.invokespecial 3, 3) := by decide +kernel
theorem dX6_init_4 : decode cX6_init 4 = .ok (.aload_n 0, 1) := by decide +kernel
theorem dX6_init_5 : decode cX6_init 5 = .ok (.bipush 8, 2) := by decide +kernel
theorem dX6_init_7 : decode cX6_init 7 = .ok (.anewarray 9, 3) := by decide +kernel
theorem dX6_init_10 : decode cX6_init 10 = .ok (.putfield 11, 3) := by decide +kernel
theorem dX6_init_13 : decode cX6_init 13 = .ok (.iconst 0, 1) := by decide +kernel
theorem dX6_init_14 : decode cX6_init 14 = .ok (.istore_n 1, 1) := by decide +kernel
theorem dX6_init_15 : decode cX6_init 15 = .ok (.iload_n 1, 1) := by decide +kernel
theorem dX6_init_16 : decode cX6_init 16 = .ok (.bipush 8, 2) := by decide +kernel
theorem dX6_init_18 : decode cX6_init 18 = .ok (.if_icmp .ge 22, 3) := by decide +kernel
theorem dX6_init_21 : decode cX6_init 21 = .ok (.aload_n 0, 1) := by decide +kernel
theorem dX6_init_22 : decode cX6_init 22 = .ok (.getfield 11, 3) := by decide +kernel
theorem dX6_init_25 : decode cX6_init 25 = .ok (.iload_n 1, 1) := by decide +kernel
theorem dX6_init_26 : decode cX6_init 26 = .ok (.new 9, 3) := by decide +kernel
theorem dX6_init_29 : decode cX6_init 29 = .ok (.dup, 1) := by decide +kernel
theorem dX6_init_30 : decode cX6_init 30 = .ok (.invokespecial 17, 3) := by decide +kernel
theorem dX6_init_33 : decode cX6_init 33 = .ok (.aastore, 1) := by decide +kernel
theorem dX6_init_34 : decode cX6_init 34 = .ok (.iinc 1 1, 3) := by decide +kernel
theorem dX6_init_37 : decode cX6_init 37 = .ok (.goto (-22), 3) := by decide +kernel
theorem dX6_init_40 : decode cX6_init 40 = .ok (.return_, 1) := by decide +kernel
theorem dX6_behind_0 : decode cX6_behind 0 = .ok (.aload_n 0, 1) := by decide +kernel
theorem dX6_behind_1 : decode cX6_behind 1 = .ok (.aload_n 1, 1) := by decide +kernel
theorem dX6_behind_2 : decode cX6_behind 2 = .ok (.getfield 18, 3) := by decide +kernel
theorem dX6_behind_5 : decode cX6_behind 5 = .ok (.putfield 24, 3) := by decide +kernel
theorem dX6_behind_8 : decode cX6_behind 8 = .ok (.iconst 0, 1) := by decide +kernel
theorem dX6_behind_9 : decode cX6_behind 9 = .ok (.istore 5, 2) := by decide +kernel
theorem dX6_behind_11 : decode cX6_behind 11 = .ok (.iload 5, 2) := by decide +kernel
theorem dX6_behind_13 : decode cX6_behind 13 = .ok (.aload_n 0, 1) := by decide +kernel
theorem dX6_behind_14 : decode cX6_behind 14 = .ok (.getfield 24, 3) := by decide +kernel
theorem dX6_behind_17 : decode cX6_behind 17 = .ok (.if_icmp .ge 26, 3) := by decide +kernel
theorem dX6_behind_20 : decode cX6_behind 20 = .ok (.aload_n 0, 1) := by decide +kernel
theorem dX6_behind_21 : decode cX6_behind 21 = .ok (.getfield 11, 3) := by decide +kernel
theorem dX6_behind_24 : decode cX6_behind 24 = .ok (.iload 5, 2) := by decide +kernel
theorem dX6_behind_26 : decode cX6_behind 26 = .ok (.aaload, 1) := by decide +kernel
theorem dX6_behind_27 : decode cX6_behind 27 = .ok (.aload_n 1, 1) := by decide +kernel
theorem dX6_behind_28 : decode cX6_behind 28 = .ok (.aload_n 2, 1) := by decide +kernel
theorem dX6_behind_29 : decode cX6_behind 29 = .ok (.iload_n 3, 1) := by decide +kernel
theorem dX6_behind_30 : decode cX6_behind 30 = .ok (.iload 5, 2) := by decide +kernel
theorem dX6_behind_32 : decode cX6_behind 32 = .ok (.iload 4, 2) := by decide +kernel
theorem dX6_behind_34 : decode cX6_behind 34 = .ok (.invokevirtual 25, 3) := by decide +kernel
theorem dX6_behind_37 : decode cX6_behind 37 = .ok (.iinc 5 1, 3) := by decide +kernel
theorem dX6_behind_40 : decode cX6_behind 40 = .ok (.goto (-29), 3) := by decide +kernel
theorem dX6_behind_43 : decode cX6_behind 43 = .ok (.return_, 1) := by decide +kernel
theorem dX6_liveAgain_0 : decode cX6_liveAgain 0 = .ok (.iconst 0, 1) := by decide +kernel
theorem dX6_liveAgain_1 : decode cX6_liveAgain 1 = .ok (.istore 6, 2) := by decide +kernel
theorem dX6_liveAgain_3 : decode cX6_liveAgain 3 = .ok (.iload 6, 2) := by decide +kernel
theorem dX6_liveAgain_5 : decode cX6_liveAgain 5 = .ok (.aload_n 0, 1) := by decide +kernel
theorem dX6_liveAgain_6 : decode cX6_liveAgain 6 = .ok (.getfield 24, 3) := by decide +kernel
theorem dX6_liveAgain_9 : decode cX6_liveAgain 9 = .ok (.if_icmp .ge 37, 3) := by decide +kernel
theorem dX6_liveAgain_12 : decode cX6_liveAgain 12 = .ok (.aload_n 2, 1) := by decide +kernel
theorem dX6_liveAgain_13 : decode cX6_liveAgain 13 = .ok (.iload 6, 2) := by decide +kernel
theorem dX6_liveAgain_15 : decode cX6_liveAgain 15 = .ok (.iload 4, 2) := by decide +kernel
theorem dX6_liveAgain_17 : decode cX6_liveAgain 17 = .ok (.invokevirtual 29, 3) := by decide +kernel
theorem dX6_liveAgain_20 : decode cX6_liveAgain 20 = .ok (.ifCond .eq 20, 3) := by decide +kernel
theorem dX6_liveAgain_23 : decode cX6_liveAgain 23 = .ok (.aload_n 0, 1) := by decide +kernel
theorem dX6_liveAgain_24 : decode cX6_liveAgain 24 = .ok (.getfield 11, 3) := by decide +kernel
theorem dX6_liveAgain_27 : decode cX6_liveAgain 27 = .ok (.iload 6, 2) := by decide +kernel
theorem dX6_liveAgain_29 : decode cX6_liveAgain 29 = .ok (.aaload, 1) := by decide +kernel
theorem dX6_liveAgain_30 : decode cX6_liveAgain 30 = .ok (.aload_n 1, 1) := by decide +kernel
theorem dX6_liveAgain_31 : decode cX6_liveAgain 31 = .ok (.aload_n 2, 1) := by decide +kernel
theorem dX6_liveAgain_32 : decode cX6_liveAgain 32 = .ok (.iload_n 3, 1) := by decide +kernel
theorem dX6_liveAgain_33 : decode cX6_liveAgain 33 = .ok (.iload 6, 2) := by decide +kernel
theorem dX6_liveAgain_35 : decode cX6_liveAgain 35 = .ok (.iload 5, 2) := by decide +kernel
theorem dX6_liveAgain_37 : decode cX6_liveAgain 37 = .ok (.invokevirtual 25, 3) := by decide +kernel
theorem dX6_liveAgain_40 : decode cX6_liveAgain 40 = .ok (.iinc 6 1, 3) := by decide +kernel
theorem dX6_liveAgain_43 : decode cX6_liveAgain 43 = .ok (.goto (-40), 3) := by decide +kernel
theorem dX6_liveAgain_46 : decode cX6_liveAgain 46 = .ok (.return_, 1) := by decide +kernel
theorem dX6_closedPairs_0 : decode cX6_closedPairs 0 = .ok (.iconst 0, 1) := by decide +kernel
theorem dX6_closedPairs_1 : decode cX6_closedPairs 1 = .ok (.istore_n 2, 1) := by decide +kernel
theorem dX6_closedPairs_2 : decode cX6_closedPairs 2 = .ok (.iconst 0, 1) := by decide +kernel
theorem dX6_closedPairs_3 : decode cX6_closedPairs 3 = .ok (.istore_n 3, 1) := by decide +kernel
theorem dX6_closedPairs_4 : decode cX6_closedPairs 4 = .ok (.iload_n 3, 1) := by decide +kernel
theorem dX6_closedPairs_5 : decode cX6_closedPairs 5 = .ok (.aload_n 0, 1) := by decide +kernel
theorem dX6_closedPairs_6 : decode cX6_closedPairs 6 = .ok (.getfield 24, 3) := by decide +kernel
theorem dX6_closedPairs_9 : decode cX6_closedPairs 9 = .ok (.if_icmp .ge 77, 3) := by decide +kernel
theorem dX6_closedPairs_12 : decode cX6_closedPairs 12 = .ok (.iload_n 3, 1) := by decide +kernel
theorem dX6_closedPairs_13 : decode cX6_closedPairs 13 = .ok (.iconst 1, 1) := by decide +kernel
theorem dX6_closedPairs_14 : decode cX6_closedPairs 14 = .ok (.iadd, 1) := by decide +kernel
theorem dX6_closedPairs_15 : decode cX6_closedPairs 15 = .ok (.istore 4, 2) := by decide +kernel
theorem dX6_closedPairs_17 : decode cX6_closedPairs 17 = .ok (.iload 4, 2) := by decide +kernel
theorem dX6_closedPairs_19 : decode cX6_closedPairs 19 = .ok (.aload_n 0, 1) := by decide +kernel
theorem dX6_closedPairs_20 : decode cX6_closedPairs 20 = .ok (.getfield 24, 3) := by decide +kernel
theorem dX6_closedPairs_23 : decode cX6_closedPairs 23 = .ok (.if_icmp .ge 57, 3) := by decide +kernel
theorem dX6_closedPairs_26 : decode cX6_closedPairs 26 = .ok (.aload_n 0, 1) := by decide +kernel
theorem dX6_closedPairs_27 : decode cX6_closedPairs 27 = .ok (.getfield 11, 3) := by decide +kernel
theorem dX6_closedPairs_30 : decode cX6_closedPairs 30 = .ok (.iload_n 3, 1) := by decide +kernel
theorem dX6_closedPairs_31 : decode cX6_closedPairs 31 = .ok (.aaload, 1) := by decide +kernel
theorem dX6_closedPairs_32 : decode cX6_closedPairs 32 = .ok (.invokevirtual 35, 3) := by decide +kernel
theorem dX6_closedPairs_35 : decode cX6_closedPairs 35 = .ok (.ifCond .eq 45, 3) := by decide +kernel
theorem dX6_closedPairs_38 : decode cX6_closedPairs 38 = .ok (.aload_n 0, 1) := by decide +kernel
theorem dX6_closedPairs_39 : decode cX6_closedPairs 39 = .ok (.getfield 11, 3) := by decide +kernel
theorem dX6_closedPairs_42 : decode cX6_closedPairs 42 = .ok (.iload 4, 2) := by decide +kernel
theorem dX6_closedPairs_44 : decode cX6_closedPairs 44 = .ok (.aaload, 1) := by decide +kernel
theorem dX6_closedPairs_45 : decode cX6_closedPairs 45 = .ok (.invokevirtual 35, 3) := by decide +kernel
theorem dX6_closedPairs_48 : decode cX6_closedPairs 48 = .ok (.ifCond .eq 26, 3) := by decide +kernel
theorem dX6_closedPairs_51 : decode cX6_closedPairs 51 = .ok (.aload_n 0, 1) := by decide +kernel
theorem dX6_closedPairs_52 : decode cX6_closedPairs 52 = .ok (.getfield 11, 3) := by decide +kernel
theorem dX6_closedPairs_55 : decode cX6_closedPairs 55 = .ok (.iload_n 3, 1) := by decide +kernel
theorem dX6_closedPairs_56 : decode cX6_closedPairs 56 = .ok (.aaload, 1) := by decide +kernel
theorem dX6_closedPairs_57 : decode cX6_closedPairs 57 = .ok (.iload_n 1, 1) := by decide +kernel
theorem dX6_closedPairs_58 : decode cX6_closedPairs 58 = .ok (.aload_n 0, 1) := by decide +kernel
theorem dX6_closedPairs_59 : decode cX6_closedPairs 59 = .ok (.getfield 11, 3) := by decide +kernel
theorem dX6_closedPairs_62 : decode cX6_closedPairs 62 = .ok (.iload 4, 2) := by decide +kernel
theorem dX6_closedPairs_64 : decode cX6_closedPairs 64 = .ok (.aaload, 1) := by decide +kernel
theorem dX6_closedPairs_65 : decode cX6_closedPairs 65 = .ok (.invokevirtual 39, 3) := by decide +kernel
theorem dX6_closedPairs_68 : decode cX6_closedPairs 68 = .ok (.ifCond .eq 6, 3) := by decide +kernel
theorem dX6_closedPairs_71 : decode cX6_closedPairs 71 = .ok (.iinc 2 1, 3) := by decide +kernel
theorem dX6_closedPairs_74 : decode cX6_closedPairs 74 = .ok (.iinc 4 1, 3) := by decide +kernel
theorem dX6_closedPairs_77 : decode cX6_closedPairs 77 = .ok (.goto (-60), 3) := by decide +kernel
theorem dX6_closedPairs_80 : decode cX6_closedPairs 80 = .ok (.iinc 3 1, 3) := by decide +kernel
theorem dX6_closedPairs_83 : decode cX6_closedPairs 83 = .ok (.goto (-79), 3) := by decide +kernel
theorem dX6_closedPairs_86 : decode cX6_closedPairs 86 = .ok (.iload_n 2, 1) := by decide +kernel
theorem dX6_closedPairs_87 : decode cX6_closedPairs 87 = .ok (.ireturn, 1) := by decide +kernel
theorem dX6_othersWith_0 : decode cX6_othersWith 0 = .ok (.iconst 0, 1) := by decide +kernel
theorem dX6_othersWith_1 : decode cX6_othersWith 1 = .ok (.istore_n 3, 1) := by decide +kernel
theorem dX6_othersWith_2 : decode cX6_othersWith 2 = .ok (.iconst 0, 1) := by decide +kernel
theorem dX6_othersWith_3 : decode cX6_othersWith 3 = .ok (.istore 4, 2) := by decide +kernel
theorem dX6_othersWith_5 : decode cX6_othersWith 5 = .ok (.iload 4, 2) := by decide +kernel
theorem dX6_othersWith_7 : decode cX6_othersWith 7 = .ok (.aload_n 0, 1) := by decide +kernel
theorem dX6_othersWith_8 : decode cX6_othersWith 8 = .ok (.getfield 24, 3) := by decide +kernel
theorem dX6_othersWith_11 : decode cX6_othersWith 11 = .ok (.if_icmp .ge 38, 3) := by decide +kernel
theorem dX6_othersWith_14 : decode cX6_othersWith 14 = .ok (.iload 4, 2) := by decide +kernel
theorem dX6_othersWith_16 : decode cX6_othersWith 16 = .ok (.iload_n 1, 1) := by decide +kernel
theorem dX6_othersWith_17 : decode cX6_othersWith 17 = .ok (.if_icmp .eq 26, 3) := by decide +kernel
theorem dX6_othersWith_20 : decode cX6_othersWith 20 = .ok (.aload_n 0, 1) := by decide +kernel
theorem dX6_othersWith_21 : decode cX6_othersWith 21 = .ok (.getfield 11, 3) := by decide +kernel
theorem dX6_othersWith_24 : decode cX6_othersWith 24 = .ok (.iload_n 1, 1) := by decide +kernel
theorem dX6_othersWith_25 : decode cX6_othersWith 25 = .ok (.aaload, 1) := by decide +kernel
theorem dX6_othersWith_26 : decode cX6_othersWith 26 = .ok (.iload_n 2, 1) := by decide +kernel
theorem dX6_othersWith_27 : decode cX6_othersWith 27 = .ok (.aload_n 0, 1) := by decide +kernel
theorem dX6_othersWith_28 : decode cX6_othersWith 28 = .ok (.getfield 11, 3) := by decide +kernel
theorem dX6_othersWith_31 : decode cX6_othersWith 31 = .ok (.iload 4, 2) := by decide +kernel
theorem dX6_othersWith_33 : decode cX6_othersWith 33 = .ok (.aaload, 1) := by decide +kernel
theorem dX6_othersWith_34 : decode cX6_othersWith 34 = .ok (.invokevirtual 39, 3) := by decide +kernel
theorem dX6_othersWith_37 : decode cX6_othersWith 37 = .ok (.ifCond .eq 6, 3) := by decide +kernel
theorem dX6_othersWith_40 : decode cX6_othersWith 40 = .ok (.iinc 3 1, 3) := by decide +kernel
theorem dX6_othersWith_43 : decode cX6_othersWith 43 = .ok (.iinc 4 1, 3) := by decide +kernel
theorem dX6_othersWith_46 : decode cX6_othersWith 46 = .ok (.goto (-41), 3) := by decide +kernel
theorem dX6_othersWith_49 : decode cX6_othersWith 49 = .ok (.iload_n 3, 1) := by decide +kernel
theorem dX6_othersWith_50 : decode cX6_othersWith 50 = .ok (.ireturn, 1) := by decide +kernel
theorem dX6_closedBits_0 : decode cX6_closedBits 0 = .ok (.iconst 0, 1) := by decide +kernel
theorem dX6_closedBits_1 : decode cX6_closedBits 1 = .ok (.istore_n 1, 1) := by decide +kernel
theorem dX6_closedBits_2 : decode cX6_closedBits 2 = .ok (.iconst 0, 1) := by decide +kernel
theorem dX6_closedBits_3 : decode cX6_closedBits 3 = .ok (.istore_n 2, 1) := by decide +kernel
theorem dX6_closedBits_4 : decode cX6_closedBits 4 = .ok (.iload_n 2, 1) := by decide +kernel
theorem dX6_closedBits_5 : decode cX6_closedBits 5 = .ok (.aload_n 0, 1) := by decide +kernel
theorem dX6_closedBits_6 : decode cX6_closedBits 6 = .ok (.getfield 24, 3) := by decide +kernel
theorem dX6_closedBits_9 : decode cX6_closedBits 9 = .ok (.if_icmp .ge 27, 3) := by decide +kernel
theorem dX6_closedBits_12 : decode cX6_closedBits 12 = .ok (.aload_n 0, 1) := by decide +kernel
theorem dX6_closedBits_13 : decode cX6_closedBits 13 = .ok (.getfield 11, 3) := by decide +kernel
theorem dX6_closedBits_16 : decode cX6_closedBits 16 = .ok (.iload_n 2, 1) := by decide +kernel
theorem dX6_closedBits_17 : decode cX6_closedBits 17 = .ok (.aaload, 1) := by decide +kernel
theorem dX6_closedBits_18 : decode cX6_closedBits 18 = .ok (.invokevirtual 35, 3) := by decide +kernel
theorem dX6_closedBits_21 : decode cX6_closedBits 21 = .ok (.ifCond .eq 9, 3) := by decide +kernel
theorem dX6_closedBits_24 : decode cX6_closedBits 24 = .ok (.iload_n 1, 1) := by decide +kernel
theorem dX6_closedBits_25 : decode cX6_closedBits 25 = .ok (.iconst 1, 1) := by decide +kernel
theorem dX6_closedBits_26 : decode cX6_closedBits 26 = .ok (.iload_n 2, 1) := by decide +kernel
theorem dX6_closedBits_27 : decode cX6_closedBits 27 = .ok (.ishl, 1) := by decide +kernel
theorem dX6_closedBits_28 : decode cX6_closedBits 28 = .ok (.ior, 1) := by decide +kernel
theorem dX6_closedBits_29 : decode cX6_closedBits 29 = .ok (.istore_n 1, 1) := by decide +kernel
theorem dX6_closedBits_30 : decode cX6_closedBits 30 = .ok (.iinc 2 1, 3) := by decide +kernel
theorem dX6_closedBits_33 : decode cX6_closedBits 33 = .ok (.goto (-29), 3) := by decide +kernel
theorem dX6_closedBits_36 : decode cX6_closedBits 36 = .ok (.iload_n 1, 1) := by decide +kernel
theorem dX6_closedBits_37 : decode cX6_closedBits 37 = .ok (.ireturn, 1) := by decide +kernel
theorem dX6_sighs_0 : decode cX6_sighs 0 = .ok (.iconst 0, 1) := by decide +kernel
theorem dX6_sighs_1 : decode cX6_sighs 1 = .ok (.istore_n 1, 1) := by decide +kernel
theorem dX6_sighs_2 : decode cX6_sighs 2 = .ok (.iconst 0, 1) := by decide +kernel
theorem dX6_sighs_3 : decode cX6_sighs 3 = .ok (.istore_n 2, 1) := by decide +kernel
theorem dX6_sighs_4 : decode cX6_sighs 4 = .ok (.iload_n 2, 1) := by decide +kernel
theorem dX6_sighs_5 : decode cX6_sighs 5 = .ok (.aload_n 0, 1) := by decide +kernel
theorem dX6_sighs_6 : decode cX6_sighs 6 = .ok (.getfield 24, 3) := by decide +kernel
theorem dX6_sighs_9 : decode cX6_sighs 9 = .ok (.if_icmp .ge 21, 3) := by decide +kernel
theorem dX6_sighs_12 : decode cX6_sighs 12 = .ok (.iload_n 1, 1) := by decide +kernel
theorem dX6_sighs_13 : decode cX6_sighs 13 = .ok (.aload_n 0, 1) := by decide +kernel
theorem dX6_sighs_14 : decode cX6_sighs 14 = .ok (.getfield 11, 3) := by decide +kernel
theorem dX6_sighs_17 : decode cX6_sighs 17 = .ok (.iload_n 2, 1) := by decide +kernel
theorem dX6_sighs_18 : decode cX6_sighs 18 = .ok (.aaload, 1) := by decide +kernel
theorem dX6_sighs_19 : decode cX6_sighs 19 = .ok (.getfield 43, 3) := by decide +kernel
theorem dX6_sighs_22 : decode cX6_sighs 22 = .ok (.iadd, 1) := by decide +kernel
theorem dX6_sighs_23 : decode cX6_sighs 23 = .ok (.istore_n 1, 1) := by decide +kernel
theorem dX6_sighs_24 : decode cX6_sighs 24 = .ok (.iinc 2 1, 3) := by decide +kernel
theorem dX6_sighs_27 : decode cX6_sighs 27 = .ok (.goto (-23), 3) := by decide +kernel
theorem dX6_sighs_30 : decode cX6_sighs 30 = .ok (.iload_n 1, 1) := by decide +kernel
theorem dX6_sighs_31 : decode cX6_sighs 31 = .ok (.ireturn, 1) := by decide +kernel
theorem dX6_firstMetBy_0 : decode cX6_firstMetBy 0 = .ok (.iload_n 1, 1) := by decide +kernel
theorem dX6_firstMetBy_1 : decode cX6_firstMetBy 1 = .ok (.iconst 1, 1) := by decide +kernel
theorem dX6_firstMetBy_2 : decode cX6_firstMetBy 2 = .ok (.iadd, 1) := by decide +kernel
theorem dX6_firstMetBy_3 : decode cX6_firstMetBy 3 = .ok (.istore_n 2, 1) := by decide +kernel
theorem dX6_firstMetBy_4 : decode cX6_firstMetBy 4 = .ok (.iload_n 2, 1) := by decide +kernel
theorem dX6_firstMetBy_5 : decode cX6_firstMetBy 5 = .ok (.aload_n 0, 1) := by decide +kernel
theorem dX6_firstMetBy_6 : decode cX6_firstMetBy 6 = .ok (.getfield 24, 3) := by decide +kernel
theorem dX6_firstMetBy_9 : decode cX6_firstMetBy 9 = .ok (.if_icmp .ge 29, 3) := by decide +kernel
theorem dX6_firstMetBy_12 : decode cX6_firstMetBy 12 = .ok (.aload_n 0, 1) := by decide +kernel
theorem dX6_firstMetBy_13 : decode cX6_firstMetBy 13 = .ok (.getfield 11, 3) := by decide +kernel
theorem dX6_firstMetBy_16 : decode cX6_firstMetBy 16 = .ok (.iload_n 1, 1) := by decide +kernel
theorem dX6_firstMetBy_17 : decode cX6_firstMetBy 17 = .ok (.aaload, 1) := by decide +kernel
theorem dX6_firstMetBy_18 : decode cX6_firstMetBy 18 = .ok (.aload_n 0, 1) := by decide +kernel
theorem dX6_firstMetBy_19 : decode cX6_firstMetBy 19 = .ok (.getfield 11, 3) := by decide +kernel
theorem dX6_firstMetBy_22 : decode cX6_firstMetBy 22 = .ok (.iload_n 2, 1) := by decide +kernel
theorem dX6_firstMetBy_23 : decode cX6_firstMetBy 23 = .ok (.aaload, 1) := by decide +kernel
theorem dX6_firstMetBy_24 : decode cX6_firstMetBy 24 = .ok (.invokevirtual 46, 3) := by decide +kernel
theorem dX6_firstMetBy_27 : decode cX6_firstMetBy 27 = .ok (.ifCond .eq 5, 3) := by decide +kernel
theorem dX6_firstMetBy_30 : decode cX6_firstMetBy 30 = .ok (.iload_n 2, 1) := by decide +kernel
theorem dX6_firstMetBy_31 : decode cX6_firstMetBy 31 = .ok (.ireturn, 1) := by decide +kernel
theorem dX6_firstMetBy_32 : decode cX6_firstMetBy 32 = .ok (.iinc 2 1, 3) := by decide +kernel
theorem dX6_firstMetBy_35 : decode cX6_firstMetBy 35 = .ok (.goto (-31), 3) := by decide +kernel
theorem dX6_firstMetBy_38 : decode cX6_firstMetBy 38 = .ok (.iconst (-1), 1) := by decide +kernel
theorem dX6_firstMetBy_39 : decode cX6_firstMetBy 39 = .ok (.ireturn, 1) := by decide +kernel
theorem dJ6_bitCount_0f7a4_0 : decode cJ6_bitCount_0f7a4 0 = .ok (.iload_n 0, 1) := by decide +kernel
theorem dJ6_bitCount_0f7a4_1 : decode cJ6_bitCount_0f7a4 1 = .ok (.iload_n 0, 1) := by decide +kernel
theorem dJ6_bitCount_0f7a4_2 : decode cJ6_bitCount_0f7a4 2 = .ok (.iconst 1, 1) := by decide +kernel
theorem dJ6_bitCount_0f7a4_3 : decode cJ6_bitCount_0f7a4 3 = .ok (.iushr, 1) := by decide +kernel
theorem dJ6_bitCount_0f7a4_4 : decode cJ6_bitCount_0f7a4 4 = .ok (.ldc_w 265, 3) := by decide +kernel
theorem dJ6_bitCount_0f7a4_7 : decode cJ6_bitCount_0f7a4 7 = .ok (.iand, 1) := by decide +kernel
theorem dJ6_bitCount_0f7a4_8 : decode cJ6_bitCount_0f7a4 8 = .ok (.isub, 1) := by decide +kernel
theorem dJ6_bitCount_0f7a4_9 : decode cJ6_bitCount_0f7a4 9 = .ok (.istore_n 0, 1) := by decide +kernel
theorem dJ6_bitCount_0f7a4_10 : decode cJ6_bitCount_0f7a4 10 = .ok (.iload_n 0, 1) := by decide +kernel
theorem dJ6_bitCount_0f7a4_11 : decode cJ6_bitCount_0f7a4 11 = .ok (.ldc_w 266, 3) := by decide +kernel
theorem dJ6_bitCount_0f7a4_14 : decode cJ6_bitCount_0f7a4 14 = .ok (.iand, 1) := by decide +kernel
theorem dJ6_bitCount_0f7a4_15 : decode cJ6_bitCount_0f7a4 15 = .ok (.iload_n 0, 1) := by decide +kernel
theorem dJ6_bitCount_0f7a4_16 : decode cJ6_bitCount_0f7a4 16 = .ok (.iconst 2, 1) := by decide +kernel
theorem dJ6_bitCount_0f7a4_17 : decode cJ6_bitCount_0f7a4 17 = .ok (.iushr, 1) := by decide +kernel
theorem dJ6_bitCount_0f7a4_18 : decode cJ6_bitCount_0f7a4 18 = .ok (.ldc_w 266, 3) := by decide +kernel
theorem dJ6_bitCount_0f7a4_21 : decode cJ6_bitCount_0f7a4 21 = .ok (.iand, 1) := by decide +kernel
theorem dJ6_bitCount_0f7a4_22 : decode cJ6_bitCount_0f7a4 22 = .ok (.iadd, 1) := by decide +kernel
theorem dJ6_bitCount_0f7a4_23 : decode cJ6_bitCount_0f7a4 23 = .ok (.istore_n 0, 1) := by decide +kernel
theorem dJ6_bitCount_0f7a4_24 : decode cJ6_bitCount_0f7a4 24 = .ok (.iload_n 0, 1) := by decide +kernel
theorem dJ6_bitCount_0f7a4_25 : decode cJ6_bitCount_0f7a4 25 = .ok (.iload_n 0, 1) := by decide +kernel
theorem dJ6_bitCount_0f7a4_26 : decode cJ6_bitCount_0f7a4 26 = .ok (.iconst 4, 1) := by decide +kernel
theorem dJ6_bitCount_0f7a4_27 : decode cJ6_bitCount_0f7a4 27 = .ok (.iushr, 1) := by decide +kernel
theorem dJ6_bitCount_0f7a4_28 : decode cJ6_bitCount_0f7a4 28 = .ok (.iadd, 1) := by decide +kernel
theorem dJ6_bitCount_0f7a4_29 : decode cJ6_bitCount_0f7a4 29 = .ok (.ldc_w 267, 3) := by decide +kernel
theorem dJ6_bitCount_0f7a4_32 : decode cJ6_bitCount_0f7a4 32 = .ok (.iand, 1) := by decide +kernel
theorem dJ6_bitCount_0f7a4_33 : decode cJ6_bitCount_0f7a4 33 = .ok (.istore_n 0, 1) := by decide +kernel
theorem dJ6_bitCount_0f7a4_34 : decode cJ6_bitCount_0f7a4 34 = .ok (.iload_n 0, 1) := by decide +kernel
theorem dJ6_bitCount_0f7a4_35 : decode cJ6_bitCount_0f7a4 35 = .ok (.iload_n 0, 1) := by decide +kernel
theorem dJ6_bitCount_0f7a4_36 : decode cJ6_bitCount_0f7a4 36 = .ok (.bipush 8, 2) := by decide +kernel
theorem dJ6_bitCount_0f7a4_38 : decode cJ6_bitCount_0f7a4 38 = .ok (.iushr, 1) := by decide +kernel
theorem dJ6_bitCount_0f7a4_39 : decode cJ6_bitCount_0f7a4 39 = .ok (.iadd, 1) := by decide +kernel
theorem dJ6_bitCount_0f7a4_40 : decode cJ6_bitCount_0f7a4 40 = .ok (.istore_n 0, 1) := by decide +kernel
theorem dJ6_bitCount_0f7a4_41 : decode cJ6_bitCount_0f7a4 41 = .ok (.iload_n 0, 1) := by decide +kernel
theorem dJ6_bitCount_0f7a4_42 : decode cJ6_bitCount_0f7a4 42 = .ok (.iload_n 0, 1) := by decide +kernel
theorem dJ6_bitCount_0f7a4_43 : decode cJ6_bitCount_0f7a4 43 = .ok (.bipush 16, 2) := by decide +kernel
theorem dJ6_bitCount_0f7a4_45 : decode cJ6_bitCount_0f7a4 45 = .ok (.iushr, 1) := by decide +kernel
theorem dJ6_bitCount_0f7a4_46 : decode cJ6_bitCount_0f7a4 46 = .ok (.iadd, 1) := by decide +kernel
theorem dJ6_bitCount_0f7a4_47 : decode cJ6_bitCount_0f7a4 47 = .ok (.istore_n 0, 1) := by decide +kernel
theorem dJ6_bitCount_0f7a4_48 : decode cJ6_bitCount_0f7a4 48 = .ok (.iload_n 0, 1) := by decide +kernel
theorem dJ6_bitCount_0f7a4_49 : decode cJ6_bitCount_0f7a4 49 = .ok (.bipush 63, 2) := by decide +kernel
theorem dJ6_bitCount_0f7a4_51 : decode cJ6_bitCount_0f7a4 51 = .ok (.iand, 1) := by decide +kernel
theorem dJ6_bitCount_0f7a4_52 : decode cJ6_bitCount_0f7a4 52 = .ok (.ireturn, 1) := by decide +kernel
theorem dJ9_max_7cf53_0 : decode cJ9_max_7cf53 0 = .ok (.iload_n 0, 1) := by decide +kernel
theorem dJ9_max_7cf53_1 : decode cJ9_max_7cf53 1 = .ok (.iload_n 1, 1) := by decide +kernel
theorem dJ9_max_7cf53_2 : decode cJ9_max_7cf53 2 = .ok (.if_icmp .lt 7, 3) := by decide +kernel
theorem dJ9_max_7cf53_5 : decode cJ9_max_7cf53 5 = .ok (.iload_n 0, 1) := by decide +kernel
theorem dJ9_max_7cf53_6 : decode cJ9_max_7cf53 6 = .ok (.goto 4, 3) := by decide +kernel
theorem dJ9_max_7cf53_9 : decode cJ9_max_7cf53 9 = .ok (.iload_n 1, 1) := by decide +kernel
theorem dJ9_max_7cf53_10 : decode cJ9_max_7cf53 10 = .ok (.ireturn, 1) := by decide +kernel
theorem dJ9_min_7cf53_0 : decode cJ9_min_7cf53 0 = .ok (.iload_n 0, 1) := by decide +kernel
theorem dJ9_min_7cf53_1 : decode cJ9_min_7cf53 1 = .ok (.iload_n 1, 1) := by decide +kernel
theorem dJ9_min_7cf53_2 : decode cJ9_min_7cf53 2 = .ok (.if_icmp .gt 7, 3) := by decide +kernel
theorem dJ9_min_7cf53_5 : decode cJ9_min_7cf53 5 = .ok (.iload_n 0, 1) := by decide +kernel
theorem dJ9_min_7cf53_6 : decode cJ9_min_7cf53 6 = .ok (.goto 4, 3) := by decide +kernel
theorem dJ9_min_7cf53_9 : decode cJ9_min_7cf53 9 = .ok (.iload_n 1, 1) := by decide +kernel
theorem dJ9_min_7cf53_10 : decode cJ9_min_7cf53 10 = .ok (.ireturn, 1) := by decide +kernel

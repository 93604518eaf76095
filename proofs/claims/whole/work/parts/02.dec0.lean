theorem dX0_init_0 : decode cX0_init 0 = .ok (.aload_n 0, 1) := by decide +kernel
theorem dX0_init_1 : decode cX0_init 1 = .ok (.invokespecial 3, 3) := by decide +kernel
theorem dX0_init_4 : decode cX0_init 4 = .ok (.aload_n 0, 1) := by decide +kernel
theorem dX0_init_5 : decode cX0_init 5 = .ok (.iconst 1, 1) := by decide +kernel
theorem dX0_init_6 : decode cX0_init 6 = .ok (.putfield 9, 3) := by decide +kernel
theorem dX0_init_9 : decode cX0_init 9 = .ok (.aload_n 0, 1) := by decide +kernel
theorem dX0_init_10 : decode cX0_init 10 = .ok (.bipush 48, 2) := by decide +kernel
theorem dX0_init_12 : decode cX0_init 12 = .ok (.newarray .int, 2) := by decide +kernel
theorem dX0_init_14 : decode cX0_init 14 = .ok (.putfield 15, 3) := by decide +kernel
theorem dX0_init_17 : decode cX0_init 17 = .ok (.aload_n 0, 1) := by decide +kernel
theorem dX0_init_18 : decode cX0_init 18 = .ok (.iconst 5, 1) := by decide +kernel
theorem dX0_init_19 : decode cX0_init 19 = .ok (.bipush 48, 2) := by decide +kernel
theorem dX0_init_21 : decode cX0_init 21 = .ok (.multianewarray 19 2, 4) := by decide +kernel
theorem dX0_init_25 : decode cX0_init 25 = .ok (.putfield 21, 3) := by decide +kernel
theorem dX0_init_28 : decode cX0_init 28 = .ok (.aload_n 0, 1) := by decide +kernel
theorem dX0_init_29 : decode cX0_init 29 = .ok (.iconst 5, 1) := by decide +kernel
theorem dX0_init_30 : decode cX0_init 30 = .ok (.bipush 10, 2) := by decide +kernel
theorem dX0_init_32 : decode cX0_init 32 = .ok (.multianewarray 19 2, 4) := by decide +kernel
theorem dX0_init_36 : decode cX0_init 36 = .ok (.putfield 24, 3) := by decide +kernel
theorem dX0_init_39 : decode cX0_init 39 = .ok (.aload_n 0, 1) := by decide +kernel
theorem dX0_init_40 : decode cX0_init 40 = .ok (.iconst 4, 1) := by decide +kernel
theorem dX0_init_41 : decode cX0_init 41 = .ok (.iconst 5, 1) := by decide +kernel
theorem dX0_init_42 : decode cX0_init 42 = .ok (.multianewarray 19 2, 4) := by decide +kernel
theorem dX0_init_46 : decode cX0_init 46 = .ok (.putfield 27, 3) := by decide +kernel
theorem dX0_init_49 : decode cX0_init 49 = .ok (.aload_n 0, 1) := by decide +kernel
theorem dX0_init_50 : decode cX0_init 50 = .ok (.iconst 4, 1) := by decide +kernel
theorem dX0_init_51 : decode cX0_init 51 = .ok (.newarray .int, 2) := by decide +kernel
theorem dX0_init_53 : decode cX0_init 53 = .ok (.putfield 30, 3) := by decide +kernel
theorem dX0_init_56 : decode cX0_init 56 = .ok (.aload_n 0, 1) := by decide +kernel
theorem dX0_init_57 : decode cX0_init 57 = .ok (.iconst 4, 1) := by decide +kernel
theorem dX0_init_58 : decode cX0_init 58 = .ok (.newarray .int, 2) := by decide +kernel
theorem dX0_init_60 : decode cX0_init 60 = .ok (.putfield 33, 3) := by decide +kernel
theorem dX0_init_63 : decode cX0_init 63 = .ok (.aload_n 0, 1) := by decide +kernel
theorem dX0_init_64 : decode cX0_init 64 = .ok (.iconst 4, 1) := by decide +kernel
theorem dX0_init_65 : decode cX0_init 65 = .ok (.newarray .int, 2) := by decide +kernel
theorem dX0_init_67 : decode cX0_init 67 = .ok (.putfield 36, 3) := by decide +kernel
theorem dX0_init_70 : decode cX0_init 70 = .ok (.aload_n 0, 1) := by decide +kernel
theorem dX0_init_71 : decode cX0_init 71 = .ok (.bipush 10, 2) := by decide +kernel
theorem dX0_init_73 : decode cX0_init 73 = .ok (.newarray .int, 2) := by decide +kernel
theorem dX0_init_75 : decode cX0_init 75 = .ok (.putfield 39, 3) := by decide +kernel
theorem dX0_init_78 : decode cX0_init 78 = .ok (.aload_n 0, 1) := by decide +kernel
theorem dX0_init_79 : decode cX0_init 79 = .ok (.iconst 5, 1) := by decide +kernel
theorem dX0_init_80 : decode cX0_init 80 = .ok (.newarray .int, 2) := by decide +kernel
theorem dX0_init_82 : decode cX0_init 82 = .ok (.putfield 42, 3) := by decide +kernel
theorem dX0_init_85 : decode cX0_init 85 = .ok (.aload_n 0, 1) := by decide +kernel
theorem dX0_init_86 : decode cX0_init 86 = .ok (.iconst 5, 1) := by decide +kernel
theorem dX0_init_87 : decode cX0_init 87 = .ok (.iconst 4, 1) := by decide +kernel
theorem dX0_init_88 : decode cX0_init 88 = .ok (.multianewarray 19 2, 4) := by decide +kernel
theorem dX0_init_92 : decode cX0_init 92 = .ok (.putfield 45, 3) := by decide +kernel
theorem dX0_init_95 : decode cX0_init 95 = .ok (.aload_n 0, 1) := by decide +kernel
theorem dX0_init_96 : decode cX0_init 96 = .ok (.iconst 5, 1) := by decide +kernel
theorem dX0_init_97 : decode cX0_init 97 = .ok (.iconst 4, 1) := by decide +kernel
theorem dX0_init_98 : decode cX0_init 98 = .ok (.multianewarray 19 2, 4) := by decide +kernel
theorem dX0_init_102 : decode cX0_init 102 = .ok (.putfield 48, 3) := by decide +kernel
theorem dX0_init_105 : decode cX0_init 105 = .ok (.aload_n 0, 1) := by decide +kernel
theorem dX0_init_106 : decode cX0_init 106 = .ok (.bipush 6, 2) := by decide +kernel
theorem dX0_init_108 : decode cX0_init 108 = .ok (.newarray .int, 2) := by decide +kernel
theorem dX0_init_110 : decode cX0_init 110 = .ok (.putfield 51, 3) := by decide +kernel
theorem dX0_init_113 : decode cX0_init 113 = .ok (.aload_n 0, 1) := by decide +kernel
theorem dX0_init_114 : decode cX0_init 114 = .ok (.sipush 320, 3) := by decide +kernel
theorem dX0_init_117 : decode cX0_init 117 = .ok (.newarray .int, 2) := by decide +kernel
theorem dX0_init_119 : decode cX0_init 119 = .ok (.putfield 56, 3) := by decide +kernel
theorem dX0_init_122 : decode cX0_init 122 = .ok (.aload_n 0, 1) := by decide +kernel
theorem dX0_init_123 : decode cX0_init 123 = .ok (.iconst 0, 1) := by decide +kernel
theorem dX0_init_124 : decode cX0_init 124 = .ok (.putfield 59, 3) := by decide +kernel
theorem dX0_init_127 : decode cX0_init 127 = .ok (.aload_n 0, 1) := by decide +kernel
theorem dX0_init_128 : decode cX0_init 128 = .ok (.aload_n 1, 1) := by decide +kernel
theorem dX0_init_129 : decode cX0_init 129 = .ok (.putfield 63, 3) := by decide +kernel
theorem dX0_init_132 : decode cX0_init 132 = .ok (.return_, 1) := by decide +kernel
theorem dX0_run_0 : decode cX0_run 0 = .ok (.aload_n 0, 1) := by decide +kernel
theorem dX0_run_1 : decode cX0_run 1 = .ok (.invokevirtual 67, 3) := by decide +kernel
theorem dX0_run_4 : decode cX0_run 4 = .ok (.aload_n 0, 1) := by decide +kernel
theorem dX0_run_5 : decode cX0_run 5 = .ok (.invokevirtual 70, 3) := by decide +kernel
theorem dX0_run_8 : decode cX0_run 8 = .ok (.iconst 0, 1) := by decide +kernel
theorem dX0_run_9 : decode cX0_run 9 = .ok (.istore_n 1, 1) := by decide +kernel
theorem dX0_run_10 : decode cX0_run 10 = .ok (.iload_n 1, 1) := by decide +kernel
theorem dX0_run_11 : decode cX0_run 11 = .ok (.bipush 48, 2) := by decide +kernel
theorem dX0_run_13 : decode cX0_run 13 = .ok (.if_icmp .ge 92, 3) := by decide +kernel
theorem dX0_run_16 : decode cX0_run 16 = .ok (.aload_n 0, 1) := by decide +kernel
theorem dX0_run_17 : decode cX0_run 17 = .ok (.iload_n 1, 1) := by decide +kernel
theorem dX0_run_18 : decode cX0_run 18 = .ok (.invokevirtual 73, 3) := by decide +kernel
theorem dX0_run_21 : decode cX0_run 21 = .ok (.istore_n 2, 1) := by decide +kernel
theorem dX0_run_22 : decode cX0_run 22 = .ok (.iconst 0, 1) := by decide +kernel
theorem dX0_run_23 : decode cX0_run 23 = .ok (.istore_n 3, 1) := by decide +kernel
theorem dX0_run_24 : decode cX0_run 24 = .ok (.iload_n 3, 1) := by decide +kernel
theorem dX0_run_25 : decode cX0_run 25 = .ok (.aload_n 0, 1) := by decide +kernel
theorem dX0_run_26 : decode cX0_run 26 = .ok (.getfield 63, 3) := by decide +kernel
theorem dX0_run_29 : decode cX0_run 29 = .ok (.getfield 77, 3) := by decide +kernel
theorem dX0_run_32 : decode cX0_run 32 = .ok (.if_icmp .ge 53, 3) := by decide +kernel
theorem dX0_run_35 : decode cX0_run 35 = .ok (.aload_n 0, 1) := by decide +kernel
theorem dX0_run_36 : decode cX0_run 36 = .ok (.getfield 63, 3) := by decide +kernel
theorem dX0_run_39 : decode cX0_run 39 = .ok (.getfield 82, 3) := by decide +kernel
theorem dX0_run_42 : decode cX0_run 42 = .ok (.iload_n 3, 1) := by decide +kernel
theorem dX0_run_43 : decode cX0_run 43 = .ok (.aaload, 1) := by decide +kernel
theorem dX0_run_44 : decode cX0_run 44 = .ok (.iload_n 1, 1) := by decide +kernel
theorem dX0_run_45 : decode cX0_run 45 = .ok (.invokevirtual 86, 3) := by decide +kernel
theorem dX0_run_48 : decode cX0_run 48 = .ok (.ifCond .eq 17, 3) := by decide +kernel
theorem dX0_run_51 : decode cX0_run 51 = .ok (.aload_n 0, 1) := by decide +kernel
theorem dX0_run_52 : decode cX0_run 52 = .ok (.iload_n 3, 1) := by decide +kernel
theorem dX0_run_53 : decode cX0_run 53 = .ok (.iload_n 1, 1) := by decide +kernel
theorem dX0_run_54 : decode cX0_run 54 = .ok (.iload_n 2, 1) := by decide +kernel
theorem dX0_run_55 : decode cX0_run 55 = .ok (.aload_n 0, 1) := by decide +kernel
theorem dX0_run_56 : decode cX0_run 56 = .ok (.getfield 59, 3) := by decide +kernel
theorem dX0_run_59 : decode cX0_run 59 = .ok (.iconst (-1), 1) := by decide +kernel
theorem dX0_run_60 : decode cX0_run 60 = .ok (.ixor, 1) := by decide +kernel
theorem dX0_run_61 : decode cX0_run 61 = .ok (.iand, 1) := by decide +kernel
theorem dX0_run_62 : decode cX0_run 62 = .ok (.invokevirtual 92, 3) := by decide +kernel
theorem dX0_run_65 : decode cX0_run 65 = .ok (.aload_n 0, 1) := by decide +kernel
theorem dX0_run_66 : decode cX0_run 66 = .ok (.getfield 21, 3) := by decide +kernel
theorem dX0_run_69 : decode cX0_run 69 = .ok (.iload_n 3, 1) := by decide +kernel
theorem dX0_run_70 : decode cX0_run 70 = .ok (.aaload, 1) := by decide +kernel
theorem dX0_run_71 : decode cX0_run 71 = .ok (.iload_n 1, 1) := by decide +kernel
theorem dX0_run_72 : decode cX0_run 72 = .ok (.aload_n 0, 1) := by decide +kernel
theorem dX0_run_73 : decode cX0_run 73 = .ok (.getfield 42, 3) := by decide +kernel
theorem dX0_run_76 : decode cX0_run 76 = .ok (.iload_n 3, 1) := by decide +kernel
theorem dX0_run_77 : decode cX0_run 77 = .ok (.iaload, 1) := by decide +kernel
theorem dX0_run_78 : decode cX0_run 78 = .ok (.iastore, 1) := by decide +kernel
theorem dX0_run_79 : decode cX0_run 79 = .ok (.iinc 3 1, 3) := by decide +kernel
theorem dX0_run_82 : decode cX0_run 82 = .ok (.goto (-58), 3) := by decide +kernel
theorem dX0_run_85 : decode cX0_run 85 = .ok (.aload_n 0, 1) := by decide +kernel
theorem dX0_run_86 : decode cX0_run 86 = .ok (.getfield 15, 3) := by decide +kernel
theorem dX0_run_89 : decode cX0_run 89 = .ok (.iload_n 1, 1) := by decide +kernel
theorem dX0_run_90 : decode cX0_run 90 = .ok (.iload_n 2, 1) := by decide +kernel
theorem dX0_run_91 : decode cX0_run 91 = .ok (.aload_n 0, 1) := by decide +kernel
theorem dX0_run_92 : decode cX0_run 92 = .ok (.getfield 59, 3) := by decide +kernel
theorem dX0_run_95 : decode cX0_run 95 = .ok (.iconst (-1), 1) := by decide +kernel
theorem dX0_run_96 : decode cX0_run 96 = .ok (.ixor, 1) := by decide +kernel
theorem dX0_run_97 : decode cX0_run 97 = .ok (.iand, 1) := by decide +kernel
theorem dX0_run_98 : decode cX0_run 98 = .ok (.iastore, 1) := by decide +kernel
theorem dX0_run_99 : decode cX0_run 99 = .ok (.iinc 1 1, 3) := by decide +kernel
theorem dX0_run_102 : decode cX0_run 102 = .ok (.goto (-92), 3) := by decide +kernel
theorem dX0_run_105 : decode cX0_run 105 = .ok (.aload_n 0, 1) := by decide +kernel
theorem dX0_run_106 : decode cX0_run 106 = .ok (.iconst 0, 1) := by decide +kernel
theorem dX0_run_107 : decode cX0_run 107 = .ok (.putfield 9, 3) := by decide +kernel
theorem dX0_run_110 : decode cX0_run 110 = .ok (.return_, 1) := by decide +kernel
theorem dX0_harmDone_0 : decode cX0_harmDone 0 = .ok (.iconst 0, 1) := by decide +kernel
theorem dX0_harmDone_1 : decode cX0_harmDone 1 = .ok (.istore_n 1, 1) := by decide +kernel
theorem dX0_harmDone_2 : decode cX0_harmDone 2 = .ok (.iconst 0, 1) := by decide +kernel
theorem dX0_harmDone_3 : decode cX0_harmDone 3 = .ok (.istore_n 2, 1) := by decide +kernel
theorem dX0_harmDone_4 : decode cX0_harmDone 4 = .ok (.iload_n 2, 1) := by decide +kernel
theorem dX0_harmDone_5 : decode cX0_harmDone 5 = .ok (.iconst 4, 1) := by decide +kernel
theorem dX0_harmDone_6 : decode cX0_harmDone 6 = .ok (.if_icmp .ge 40, 3) := by decide +kernel
theorem dX0_harmDone_9 : decode cX0_harmDone 9 = .ok (.aload_n 0, 1) := by decide +kernel
theorem dX0_harmDone_10 : decode cX0_harmDone 10 = .ok (.iload_n 2, 1) := by decide +kernel
theorem dX0_harmDone_11 : decode cX0_harmDone 11 = .ok (.invokevirtual 96, 3) := by decide +kernel
theorem dX0_harmDone_14 : decode cX0_harmDone 14 = .ok (.ifCond .eq 11, 3) := by decide +kernel
theorem dX0_harmDone_17 : decode cX0_harmDone 17 = .ok (.iload_n 1, 1) := by decide +kernel
theorem dX0_harmDone_18 : decode cX0_harmDone 18 = .ok (.aload_n 0, 1) := by decide +kernel
theorem dX0_harmDone_19 : decode cX0_harmDone 19 = .ok (.iload_n 2, 1) := by decide +kernel
theorem dX0_harmDone_20 : decode cX0_harmDone 20 = .ok (.invokevirtual 99, 3) := by decide +kernel
theorem dX0_harmDone_23 : decode cX0_harmDone 23 = .ok (.iadd, 1) := by decide +kernel
theorem dX0_harmDone_24 : decode cX0_harmDone 24 = .ok (.istore_n 1, 1) := by decide +kernel
theorem dX0_harmDone_25 : decode cX0_harmDone 25 = .ok (.iload_n 1, 1) := by decide +kernel
theorem dX0_harmDone_26 : decode cX0_harmDone 26 = .ok (.iconst 0, 1) := by decide +kernel
theorem dX0_harmDone_27 : decode cX0_harmDone 27 = .ok (.aload_n 0, 1) := by decide +kernel
theorem dX0_harmDone_28 : decode cX0_harmDone 28 = .ok (.getfield 30, 3) := by decide +kernel
theorem dX0_harmDone_31 : decode cX0_harmDone 31 = .ok (.iload_n 2, 1) := by decide +kernel
theorem dX0_harmDone_32 : decode cX0_harmDone 32 = .ok (.iaload, 1) := by decide +kernel
theorem dX0_harmDone_33 : decode cX0_harmDone 33 = .ok (.iconst 1, 1) := by decide +kernel
theorem dX0_harmDone_34 : decode cX0_harmDone 34 = .ok (.isub, 1) := by decide +kernel
theorem dX0_harmDone_35 : decode cX0_harmDone 35 = .ok (.invokestatic 102, 3) := by decide +kernel
theorem dX0_harmDone_38 : decode cX0_harmDone 38 = .ok (.iadd, 1) := by decide +kernel
theorem dX0_harmDone_39 : decode cX0_harmDone 39 = .ok (.istore_n 1, 1) := by decide +kernel
theorem dX0_harmDone_40 : decode cX0_harmDone 40 = .ok (.iinc 2 1, 3) := by decide +kernel
theorem dX0_harmDone_43 : decode cX0_harmDone 43 = .ok (.goto (-39), 3) := by decide +kernel
theorem dX0_harmDone_46 : decode cX0_harmDone 46 = .ok (.iload_n 1, 1) := by decide +kernel
theorem dX0_harmDone_47 : decode cX0_harmDone 47 = .ok (.ireturn, 1) := by decide +kernel
theorem dX0_isNeglected_0 : decode cX0_isNeglected 0 = .ok (.aload_n 0, 1) := by decide +kernel
theorem dX0_isNeglected_1 : decode cX0_isNeglected 1 = .ok (.getfield 30, 3) := by decide +kernel
theorem dX0_isNeglected_4 : decode cX0_isNeglected 4 = .ok (.iload_n 1, 1) := by decide +kernel
theorem dX0_isNeglected_5 : decode cX0_isNeglected 5 = .ok (.iaload, 1) := by decide +kernel
theorem dX0_isNeglected_6 : decode cX0_isNeglected 6 = .ok (.ifCond .ne 15, 3) := by decide +kernel
theorem dX0_isNeglected_9 : decode cX0_isNeglected 9 = .ok (.aload_n 0, 1) := by decide +kernel
theorem dX0_isNeglected_10 : decode cX0_isNeglected 10 = .ok (.iload_n 1, 1) := by decide +kernel
theorem dX0_isNeglected_11 : decode cX0_isNeglected 11 = .ok (.invokevirtual 108, 3) := by decide +kernel
theorem dX0_isNeglected_14 : decode cX0_isNeglected 14 = .ok (.ifCond .le 7, 3) := by decide +kernel
theorem dX0_isNeglected_17 : decode cX0_isNeglected 17 = .ok (.iconst 1, 1) := by decide +kernel
theorem dX0_isNeglected_18 : decode cX0_isNeglected 18 = .ok (.goto 4, 3) := by decide +kernel
theorem dX0_isNeglected_21 : decode cX0_isNeglected 21 = .ok (.iconst 0, 1) := by decide +kernel
theorem dX0_isNeglected_22 : decode cX0_isNeglected 22 = .ok (.ireturn, 1) := by decide +kernel
theorem dX0_clear_0 : decode cX0_clear 0 = .ok (.aload_n 0, 1) := by decide +kernel
theorem dX0_clear_1 : decode cX0_clear 1 = .ok (.iconst 0, 1) := by decide +kernel
theorem dX0_clear_2 : decode cX0_clear 2 = .ok (.putfield 59, 3) := by decide +kernel
theorem dX0_clear_5 : decode cX0_clear 5 = .ok (.aload_n 0, 1) := by decide +kernel
theorem dX0_clear_6 : decode cX0_clear 6 = .ok (.getfield 42, 3) := by decide +kernel
theorem dX0_clear_9 : decode cX0_clear 9 = .ok (.iconst 0, 1) := by decide +kernel
theorem dX0_clear_10 : decode cX0_clear 10 = .ok (.invokestatic 111, 3) := by decide +kernel
theorem dX0_clear_13 : decode cX0_clear 13 = .ok (.iconst 0, 1) := by decide +kernel
theorem dX0_clear_14 : decode cX0_clear 14 = .ok (.istore_n 1, 1) := by decide +kernel
theorem dX0_clear_15 : decode cX0_clear 15 = .ok (.iload_n 1, 1) := by decide +kernel
theorem dX0_clear_16 : decode cX0_clear 16 = .ok (.iconst 5, 1) := by decide +kernel
theorem dX0_clear_17 : decode cX0_clear 17 = .ok (.if_icmp .ge 39, 3) := by decide +kernel
theorem dX0_clear_20 : decode cX0_clear 20 = .ok (.aload_n 0, 1) := by decide +kernel
theorem dX0_clear_21 : decode cX0_clear 21 = .ok (.getfield 24, 3) := by decide +kernel
theorem dX0_clear_24 : decode cX0_clear 24 = .ok (.iload_n 1, 1) := by decide +kernel
theorem dX0_clear_25 : decode cX0_clear 25 = .ok (.aaload, 1) := by decide +kernel
theorem dX0_clear_26 : decode cX0_clear 26 = .ok (.iconst (-1), 1) := by decide +kernel
theorem dX0_clear_27 : decode cX0_clear 27 = .ok (.invokestatic 111, 3) := by decide +kernel
theorem dX0_clear_30 : decode cX0_clear 30 = .ok (.aload_n 0, 1) := by decide +kernel
theorem dX0_clear_31 : decode cX0_clear 31 = .ok (.getfield 45, 3) := by decide +kernel
theorem dX0_clear_34 : decode cX0_clear 34 = .ok (.iload_n 1, 1) := by decide +kernel
theorem dX0_clear_35 : decode cX0_clear 35 = .ok (.aaload, 1) := by decide +kernel
theorem dX0_clear_36 : decode cX0_clear 36 = .ok (.iconst 0, 1) := by decide +kernel
theorem dX0_clear_37 : decode cX0_clear 37 = .ok (.invokestatic 111, 3) := by decide +kernel
theorem dX0_clear_40 : decode cX0_clear 40 = .ok (.aload_n 0, 1) := by decide +kernel
theorem dX0_clear_41 : decode cX0_clear 41 = .ok (.getfield 48, 3) := by decide +kernel
theorem dX0_clear_44 : decode cX0_clear 44 = .ok (.iload_n 1, 1) := by decide +kernel
theorem dX0_clear_45 : decode cX0_clear 45 = .ok (.aaload, 1) := by decide +kernel
theorem dX0_clear_46 : decode cX0_clear 46 = .ok (.iconst 0, 1) := by decide +kernel
theorem dX0_clear_47 : decode cX0_clear 47 = .ok (.invokestatic 111, 3) := by decide +kernel
theorem dX0_clear_50 : decode cX0_clear 50 = .ok (.iinc 1 1, 3) := by decide +kernel
theorem dX0_clear_53 : decode cX0_clear 53 = .ok (.goto (-38), 3) := by decide +kernel
theorem dX0_clear_56 : decode cX0_clear 56 = .ok (.iconst 0, 1) := by decide +kernel
theorem dX0_clear_57 : decode cX0_clear 57 = .ok (.istore_n 1, 1) := by decide +kernel
theorem dX0_clear_58 : decode cX0_clear 58 = .ok (.iload_n 1, 1) := by decide +kernel
theorem dX0_clear_59 : decode cX0_clear 59 = .ok (.iconst 4, 1) := by decide +kernel
theorem dX0_clear_60 : decode cX0_clear 60 = .ok (.if_icmp .ge 19, 3) := by decide +kernel
theorem dX0_clear_63 : decode cX0_clear 63 = .ok (.aload_n 0, 1) := by decide +kernel
theorem dX0_clear_64 : decode cX0_clear 64 = .ok (.getfield 27, 3) := by decide +kernel
theorem dX0_clear_67 : decode cX0_clear 67 = .ok (.iload_n 1, 1) := by decide +kernel
theorem dX0_clear_68 : decode cX0_clear 68 = .ok (.aaload, 1) := by decide +kernel
theorem dX0_clear_69 : decode cX0_clear 69 = .ok (.iconst 0, 1) := by decide +kernel
theorem dX0_clear_70 : decode cX0_clear 70 = .ok (.invokestatic 111, 3) := by decide +kernel
theorem dX0_clear_73 : decode cX0_clear 73 = .ok (.iinc 1 1, 3) := by decide +kernel
theorem dX0_clear_76 : decode cX0_clear 76 = .ok (.goto (-18), 3) := by decide +kernel
theorem dX0_clear_79 : decode cX0_clear 79 = .ok (.aload_n 0, 1) := by decide +kernel
theorem dX0_clear_80 : decode cX0_clear 80 = .ok (.getfield 30, 3) := by decide +kernel
theorem dX0_clear_83 : decode cX0_clear 83 = .ok (.iconst 0, 1) := by decide +kernel
theorem dX0_clear_84 : decode cX0_clear 84 = .ok (.invokestatic 111, 3) := by decide +kernel
theorem dX0_clear_87 : decode cX0_clear 87 = .ok (.aload_n 0, 1) := by decide +kernel
theorem dX0_clear_88 : decode cX0_clear 88 = .ok (.getfield 33, 3) := by decide +kernel
theorem dX0_clear_91 : decode cX0_clear 91 = .ok (.iconst (-1), 1) := by decide +kernel
theorem dX0_clear_92 : decode cX0_clear 92 = .ok (.invokestatic 111, 3) := by decide +kernel
theorem dX0_clear_95 : decode cX0_clear 95 = .ok (.aload_n 0, 1) := by decide +kernel
theorem dX0_clear_96 : decode cX0_clear 96 = .ok (.getfield 36, 3) := by decide +kernel
theorem dX0_clear_99 : decode cX0_clear 99 = .ok (.iconst (-1), 1) := by decide +kernel
theorem dX0_clear_100 : decode cX0_clear 100 = .ok (.invokestatic 111, 3) := by decide +kernel
theorem dX0_clear_103 : decode cX0_clear 103 = .ok (.return_, 1) := by decide +kernel
theorem dX0_sortUppermost_0 : decode cX0_sortUppermost 0 = .ok (.iconst 0, 1) := by decide +kernel
theorem dX0_sortUppermost_1 : decode cX0_sortUppermost 1 = .ok (.istore_n 1, 1) := by decide +kernel
theorem dX0_sortUppermost_2 : decode cX0_sortUppermost 2 = .ok (.iload_n 1, 1) := by decide +kernel
theorem dX0_sortUppermost_3 : decode cX0_sortUppermost 3 = .ok (.aload_n 0, 1) := by decide +kernel
theorem dX0_sortUppermost_4 : decode cX0_sortUppermost 4 = .ok (.getfield 63, 3) := by decide +kernel
theorem dX0_sortUppermost_7 : decode cX0_sortUppermost 7 = .ok (.getfield 117, 3) := by decide +kernel
theorem dX0_sortUppermost_10 : decode cX0_sortUppermost 10 = .ok (.if_icmp .ge 61, 3) := by decide +kernel
theorem dX0_sortUppermost_13 : decode cX0_sortUppermost 13 = .ok (.iload_n 1, 1) := by decide +kernel
theorem dX0_sortUppermost_14 : decode cX0_sortUppermost 14 = .ok (.istore_n 2, 1) := by decide +kernel
theorem dX0_sortUppermost_15 : decode cX0_sortUppermost 15 = .ok (.iload_n 2, 1) := by decide +kernel
theorem dX0_sortUppermost_16 : decode cX0_sortUppermost 16 = .ok (.ifCond .le 42, 3) := by decide +kernel
theorem dX0_sortUppermost_19 : decode cX0_sortUppermost 19 = .ok (.aload_n 0, 1) := by decide +kernel
theorem dX0_sortUppermost_20 : decode cX0_sortUppermost 20 = .ok (.getfield 63, 3) := by decide +kernel
theorem dX0_sortUppermost_23 : decode cX0_sortUppermost 23 = .ok (.iload_n 1, 1) := by decide +kernel
theorem dX0_sortUppermost_24 : decode cX0_sortUppermost 24 = .ok (.aload_n 0, 1) := by decide +kernel
theorem dX0_sortUppermost_25 : decode cX0_sortUppermost 25 = .ok (.getfield 39, 3) := by decide +kernel
theorem dX0_sortUppermost_28 : decode cX0_sortUppermost 28 = .ok (.iload_n 2, 1) := by decide +kernel
theorem dX0_sortUppermost_29 : decode cX0_sortUppermost 29 = .ok (.iconst 1, 1) := by decide +kernel
theorem dX0_sortUppermost_30 : decode cX0_sortUppermost 30 = .ok (.isub, 1) := by decide +kernel
theorem dX0_sortUppermost_31 : decode cX0_sortUppermost 31 = .ok (.iaload, 1) := by decide +kernel
theorem dX0_sortUppermost_32 : decode cX0_sortUppermost 32 = .ok (.invokevirtual 120, 3) := by decide +kernel
theorem dX0_sortUppermost_35 : decode cX0_sortUppermost 35 = .ok (.ifCond .eq 23, 3) := by decide +kernel
theorem dX0_sortUppermost_38 : decode cX0_sortUppermost 38 = .ok (.aload_n 0, 1) := by decide +kernel
theorem dX0_sortUppermost_39 : decode cX0_sortUppermost 39 = .ok (.getfield 39, 3) := by decide +kernel
theorem dX0_sortUppermost_42 : decode cX0_sortUppermost 42 = .ok (.iload_n 2, 1) := by decide +kernel
theorem dX0_sortUppermost_43 : decode cX0_sortUppermost 43 = .ok (.aload_n 0, 1) := by decide +kernel
theorem dX0_sortUppermost_44 : decode cX0_sortUppermost 44 = .ok (.getfield 39, 3) := by decide +kernel
theorem dX0_sortUppermost_47 : decode cX0_sortUppermost 47 = .ok (.iload_n 2, 1) := by decide +kernel
theorem dX0_sortUppermost_48 : decode cX0_sortUppermost 48 = .ok (.iconst 1, 1) := by decide +kernel
theorem dX0_sortUppermost_49 : decode cX0_sortUppermost 49 = .ok (.isub, 1) := by decide +kernel
theorem dX0_sortUppermost_50 : decode cX0_sortUppermost 50 = .ok (.iaload, 1) := by decide +kernel
theorem dX0_sortUppermost_51 : decode cX0_sortUppermost 51 = .ok (.iastore, 1) := by decide +kernel
theorem dX0_sortUppermost_52 : decode cX0_sortUppermost 52 = .ok (.iinc 2 (-1), 3) := by decide +kernel
theorem dX0_sortUppermost_55 : decode cX0_sortUppermost 55 = .ok (.goto (-40), 3) := by decide +kernel
theorem dX0_sortUppermost_58 : decode cX0_sortUppermost 58 = .ok (.aload_n 0, 1) := by decide +kernel
theorem dX0_sortUppermost_59 : decode cX0_sortUppermost 59 = .ok (.getfield 39, 3) := by decide +kernel
theorem dX0_sortUppermost_62 : decode cX0_sortUppermost 62 = .ok (.iload_n 2, 1) := by decide +kernel
theorem dX0_sortUppermost_63 : decode cX0_sortUppermost 63 = .ok (.iload_n 1, 1) := by decide +kernel
theorem dX0_sortUppermost_64 : decode cX0_sortUppermost 64 = .ok (.iastore, 1) := by decide +kernel
theorem dX0_sortUppermost_65 : decode cX0_sortUppermost 65 = .ok (.iinc 1 1, 3) := by decide +kernel
theorem dX0_sortUppermost_68 : decode cX0_sortUppermost 68 = .ok (.goto (-66), 3) := by decide +kernel
theorem dX0_sortUppermost_71 : decode cX0_sortUppermost 71 = .ok (.return_, 1) := by decide +kernel
theorem dX0_putIn_0 : decode cX0_putIn 0 = .ok (.iconst 0, 1) := by decide +kernel
theorem dX0_putIn_1 : decode cX0_putIn 1 = .ok (.istore_n 2, 1) := by decide +kernel
theorem dX0_putIn_2 : decode cX0_putIn 2 = .ok (.iconst 0, 1) := by decide +kernel
theorem dX0_putIn_3 : decode cX0_putIn 3 = .ok (.istore_n 3, 1) := by decide +kernel
theorem dX0_putIn_4 : decode cX0_putIn 4 = .ok (.iload_n 3, 1) := by decide +kernel
theorem dX0_putIn_5 : decode cX0_putIn 5 = .ok (.aload_n 0, 1) := by decide +kernel
theorem dX0_putIn_6 : decode cX0_putIn 6 = .ok (.getfield 63, 3) := by decide +kernel
theorem dX0_putIn_9 : decode cX0_putIn 9 = .ok (.getfield 117, 3) := by decide +kernel
theorem dX0_putIn_12 : decode cX0_putIn 12 = .ok (.if_icmp .ge 31, 3) := by decide +kernel
theorem dX0_putIn_15 : decode cX0_putIn 15 = .ok (.aload_n 0, 1) := by decide +kernel
theorem dX0_putIn_16 : decode cX0_putIn 16 = .ok (.getfield 63, 3) := by decide +kernel
theorem dX0_putIn_19 : decode cX0_putIn 19 = .ok (.getfield 124, 3) := by decide +kernel
theorem dX0_putIn_22 : decode cX0_putIn 22 = .ok (.iload_n 3, 1) := by decide +kernel
theorem dX0_putIn_23 : decode cX0_putIn 23 = .ok (.aaload, 1) := by decide +kernel
theorem dX0_putIn_24 : decode cX0_putIn 24 = .ok (.iload_n 1, 1) := by decide +kernel
theorem dX0_putIn_25 : decode cX0_putIn 25 = .ok (.invokevirtual 128, 3) := by decide +kernel
theorem dX0_putIn_28 : decode cX0_putIn 28 = .ok (.ifCond .eq 9, 3) := by decide +kernel
theorem dX0_putIn_31 : decode cX0_putIn 31 = .ok (.iload_n 2, 1) := by decide +kernel
theorem dX0_putIn_32 : decode cX0_putIn 32 = .ok (.iconst 1, 1) := by decide +kernel
theorem dX0_putIn_33 : decode cX0_putIn 33 = .ok (.iload_n 3, 1) := by decide +kernel
theorem dX0_putIn_34 : decode cX0_putIn 34 = .ok (.ishl, 1) := by decide +kernel
theorem dX0_putIn_35 : decode cX0_putIn 35 = .ok (.ior, 1) := by decide +kernel
theorem dX0_putIn_36 : decode cX0_putIn 36 = .ok (.istore_n 2, 1) := by decide +kernel
theorem dX0_putIn_37 : decode cX0_putIn 37 = .ok (.iinc 3 1, 3) := by decide +kernel
theorem dX0_putIn_40 : decode cX0_putIn 40 = .ok (.goto (-36), 3) := by decide +kernel
theorem dX0_putIn_43 : decode cX0_putIn 43 = .ok (.iload_n 2, 1) := by decide +kernel
theorem dX0_putIn_44 : decode cX0_putIn 44 = .ok (.ireturn, 1) := by decide +kernel
theorem dX0_visit_0 : decode cX0_visit 0 = .ok (.aload_n 0, 1) := by decide +kernel
theorem dX0_visit_1 : decode cX0_visit 1 = .ok (.iload_n 3, 1) := by decide +kernel
theorem dX0_visit_2 : decode cX0_visit 2 = .ok (.aload_n 0, 1) := by decide +kernel
theorem dX0_visit_3 : decode cX0_visit 3 = .ok (.getfield 63, 3) := by decide +kernel
theorem dX0_visit_6 : decode cX0_visit 6 = .ok (.getfield 82, 3) := by decide +kernel
theorem dX0_visit_9 : decode cX0_visit 9 = .ok (.iload_n 1, 1) := by decide +kernel
theorem dX0_visit_10 : decode cX0_visit 10 = .ok (.aaload, 1) := by decide +kernel
theorem dX0_visit_11 : decode cX0_visit 11 = .ok (.getfield 133, 3) := by decide +kernel
theorem dX0_visit_14 : decode cX0_visit 14 = .ok (.iconst 2, 1) := by decide +kernel
theorem dX0_visit_15 : decode cX0_visit 15 = .ok (.iaload, 1) := by decide +kernel
theorem dX0_visit_16 : decode cX0_visit 16 = .ok (.invokevirtual 136, 3) := by decide +kernel
theorem dX0_visit_19 : decode cX0_visit 19 = .ok (.istore 4, 2) := by decide +kernel
theorem dX0_visit_21 : decode cX0_visit 21 = .ok (.aload_n 0, 1) := by decide +kernel
theorem dX0_visit_22 : decode cX0_visit 22 = .ok (.iload_n 1, 1) := by decide +kernel
theorem dX0_visit_23 : decode cX0_visit 23 = .ok (.iload_n 2, 1) := by decide +kernel
theorem dX0_visit_24 : decode cX0_visit 24 = .ok (.iload 4, 2) := by decide +kernel
theorem dX0_visit_26 : decode cX0_visit 26 = .ok (.invokevirtual 139, 3) := by decide +kernel
theorem dX0_visit_29 : decode cX0_visit 29 = .ok (.aload_n 0, 1) := by decide +kernel
theorem dX0_visit_30 : decode cX0_visit 30 = .ok (.getfield 51, 3) := by decide +kernel
theorem dX0_visit_33 : decode cX0_visit 33 = .ok (.iconst 2, 1) := by decide +kernel
theorem dX0_visit_34 : decode cX0_visit 34 = .ok (.iload_n 2, 1) := by decide +kernel
theorem dX0_visit_35 : decode cX0_visit 35 = .ok (.iastore, 1) := by decide +kernel
theorem dX0_visit_36 : decode cX0_visit 36 = .ok (.aload_n 0, 1) := by decide +kernel
theorem dX0_visit_37 : decode cX0_visit 37 = .ok (.getfield 51, 3) := by decide +kernel
theorem dX0_visit_40 : decode cX0_visit 40 = .ok (.iconst 3, 1) := by decide +kernel
theorem dX0_visit_41 : decode cX0_visit 41 = .ok (.iload_n 1, 1) := by decide +kernel
theorem dX0_visit_42 : decode cX0_visit 42 = .ok (.iastore, 1) := by decide +kernel
theorem dX0_visit_43 : decode cX0_visit 43 = .ok (.aload_n 0, 1) := by decide +kernel
theorem dX0_visit_44 : decode cX0_visit 44 = .ok (.getfield 51, 3) := by decide +kernel
theorem dX0_visit_47 : decode cX0_visit 47 = .ok (.iconst 4, 1) := by decide +kernel
theorem dX0_visit_48 : decode cX0_visit 48 = .ok (.aload_n 0, 1) := by decide +kernel
theorem dX0_visit_49 : decode cX0_visit 49 = .ok (.getfield 63, 3) := by decide +kernel
theorem dX0_visit_52 : decode cX0_visit 52 = .ok (.getfield 82, 3) := by decide +kernel
theorem dX0_visit_55 : decode cX0_visit 55 = .ok (.iload_n 1, 1) := by decide +kernel
theorem dX0_visit_56 : decode cX0_visit 56 = .ok (.aaload, 1) := by decide +kernel
theorem dX0_visit_57 : decode cX0_visit 57 = .ok (.getfield 133, 3) := by decide +kernel
theorem dX0_visit_60 : decode cX0_visit 60 = .ok (.iconst 3, 1) := by decide +kernel
theorem dX0_visit_61 : decode cX0_visit 61 = .ok (.iaload, 1) := by decide +kernel
theorem dX0_visit_62 : decode cX0_visit 62 = .ok (.iastore, 1) := by decide +kernel
theorem dX0_visit_63 : decode cX0_visit 63 = .ok (.iconst 0, 1) := by decide +kernel
theorem dX0_visit_64 : decode cX0_visit 64 = .ok (.istore 5, 2) := by decide +kernel
theorem dX0_visit_66 : decode cX0_visit 66 = .ok (.iload 5, 2) := by decide +kernel
theorem dX0_visit_68 : decode cX0_visit 68 = .ok (.iconst 4, 1) := by decide +kernel
theorem dX0_visit_69 : decode cX0_visit 69 = .ok (.if_icmp .ge 45, 3) := by decide +kernel
theorem dX0_visit_72 : decode cX0_visit 72 = .ok (.aload_n 0, 1) := by decide +kernel
theorem dX0_visit_73 : decode cX0_visit 73 = .ok (.iconst 0, 1) := by decide +kernel
theorem dX0_visit_74 : decode cX0_visit 74 = .ok (.aload_n 0, 1) := by decide +kernel
theorem dX0_visit_75 : decode cX0_visit 75 = .ok (.getfield 45, 3) := by decide +kernel
theorem dX0_visit_78 : decode cX0_visit 78 = .ok (.iload_n 1, 1) := by decide +kernel
theorem dX0_visit_79 : decode cX0_visit 79 = .ok (.aaload, 1) := by decide +kernel
theorem dX0_visit_80 : decode cX0_visit 80 = .ok (.iload 5, 2) := by decide +kernel
theorem dX0_visit_82 : decode cX0_visit 82 = .ok (.iaload, 1) := by decide +kernel
theorem dX0_visit_83 : decode cX0_visit 83 = .ok (.aload_n 0, 1) := by decide +kernel
theorem dX0_visit_84 : decode cX0_visit 84 = .ok (.getfield 48, 3) := by decide +kernel
theorem dX0_visit_87 : decode cX0_visit 87 = .ok (.iload_n 1, 1) := by decide +kernel
theorem dX0_visit_88 : decode cX0_visit 88 = .ok (.aaload, 1) := by decide +kernel
theorem dX0_visit_89 : decode cX0_visit 89 = .ok (.iload 5, 2) := by decide +kernel
theorem dX0_visit_91 : decode cX0_visit 91 = .ok (.iaload, 1) := by decide +kernel
theorem dX0_visit_92 : decode cX0_visit 92 = .ok (.iload 5, 2) := by decide +kernel
theorem dX0_visit_94 : decode cX0_visit 94 = .ok (.invokevirtual 142, 3) := by decide +kernel
theorem dX0_visit_97 : decode cX0_visit 97 = .ok (.ifCond .eq 11, 3) := by decide +kernel
theorem dX0_visit_100 : decode cX0_visit 100 = .ok (.aload_n 0, 1) := by decide +kernel
theorem dX0_visit_101 : decode cX0_visit 101 = .ok (.iload_n 1, 1) := by decide +kernel
theorem dX0_visit_102 : decode cX0_visit 102 = .ok (.iload_n 2, 1) := by decide +kernel
theorem dX0_visit_103 : decode cX0_visit 103 = .ok (.iload 5, 2) := by decide +kernel
theorem dX0_visit_105 : decode cX0_visit 105 = .ok (.invokevirtual 146, 3) := by decide +kernel
theorem dX0_visit_108 : decode cX0_visit 108 = .ok (.iinc 5 1, 3) := by decide +kernel
theorem dX0_visit_111 : decode cX0_visit 111 = .ok (.goto (-45), 3) := by decide +kernel
theorem dX0_visit_114 : decode cX0_visit 114 = .ok (.iconst 0, 1) := by decide +kernel
theorem dX0_visit_115 : decode cX0_visit 115 = .ok (.istore 5, 2) := by decide +kernel
theorem dX0_visit_117 : decode cX0_visit 117 = .ok (.iload 5, 2) := by decide +kernel
theorem dX0_visit_119 : decode cX0_visit 119 = .ok (.aload_n 0, 1) := by decide +kernel
theorem dX0_visit_120 : decode cX0_visit 120 = .ok (.getfield 63, 3) := by decide +kernel
theorem dX0_visit_123 : decode cX0_visit 123 = .ok (.getfield 117, 3) := by decide +kernel
theorem dX0_visit_126 : decode cX0_visit 126 = .ok (.if_icmp .ge 79, 3) := by decide +kernel
theorem dX0_visit_129 : decode cX0_visit 129 = .ok (.aload_n 0, 1) := by decide +kernel
theorem dX0_visit_130 : decode cX0_visit 130 = .ok (.getfield 63, 3) := by decide +kernel
theorem dX0_visit_133 : decode cX0_visit 133 = .ok (.getfield 124, 3) := by decide +kernel
theorem dX0_visit_136 : decode cX0_visit 136 = .ok (.iload 5, 2) := by decide +kernel
theorem dX0_visit_138 : decode cX0_visit 138 = .ok (.aaload, 1) := by decide +kernel
theorem dX0_visit_139 : decode cX0_visit 139 = .ok (.astore 6, 2) := by decide +kernel
theorem dX0_visit_141 : decode cX0_visit 141 = .ok (.iload 4, 2) := by decide +kernel
theorem dX0_visit_143 : decode cX0_visit 143 = .ok (.iload 5, 2) := by decide +kernel
theorem dX0_visit_145 : decode cX0_visit 145 = .ok (.ishr, 1) := by decide +kernel
theorem dX0_visit_146 : decode cX0_visit 146 = .ok (.iconst 1, 1) := by decide +kernel
theorem dX0_visit_147 : decode cX0_visit 147 = .ok (.iand, 1) := by decide +kernel
theorem dX0_visit_148 : decode cX0_visit 148 = .ok (.ifCond .eq 7, 3) := by decide +kernel
theorem dX0_visit_151 : decode cX0_visit 151 = .ok (.iconst 1, 1) := by decide +kernel
theorem dX0_visit_152 : decode cX0_visit 152 = .ok (.goto 4, 3) := by decide +kernel
theorem dX0_visit_155 : decode cX0_visit 155 = .ok (.iconst 0, 1) := by decide +kernel
theorem dX0_visit_156 : decode cX0_visit 156 = .ok (.istore 7, 2) := by decide +kernel
theorem dX0_visit_158 : decode cX0_visit 158 = .ok (.iload 7, 2) := by decide +kernel
theorem dX0_visit_160 : decode cX0_visit 160 = .ok (.ifCond .eq 39, 3) := by decide +kernel
theorem dX0_visit_163 : decode cX0_visit 163 = .ok (.aload_n 0, 1) := by decide +kernel
theorem dX0_visit_164 : decode cX0_visit 164 = .ok (.iconst 1, 1) := by decide +kernel
theorem dX0_visit_165 : decode cX0_visit 165 = .ok (.aload 6, 2) := by decide +kernel
theorem dX0_visit_167 : decode cX0_visit 167 = .ok (.getfield 149, 3) := by decide +kernel
theorem dX0_visit_170 : decode cX0_visit 170 = .ok (.aload 6, 2) := by decide +kernel
theorem dX0_visit_172 : decode cX0_visit 172 = .ok (.getfield 152, 3) := by decide +kernel
theorem dX0_visit_175 : decode cX0_visit 175 = .ok (.aload 6, 2) := by decide +kernel
theorem dX0_visit_177 : decode cX0_visit 177 = .ok (.getfield 155, 3) := by decide +kernel
theorem dX0_visit_180 : decode cX0_visit 180 = .ok (.invokevirtual 142, 3) := by decide +kernel
theorem dX0_visit_183 : decode cX0_visit 183 = .ok (.ifCond .eq 16, 3) := by decide +kernel
theorem dX0_visit_186 : decode cX0_visit 186 = .ok (.aload_n 0, 1) := by decide +kernel
theorem dX0_visit_187 : decode cX0_visit 187 = .ok (.dup, 1) := by decide +kernel
theorem dX0_visit_188 : decode cX0_visit 188 = .ok (.getfield 59, 3) := by decide +kernel
theorem dX0_visit_191 : decode cX0_visit 191 = .ok (.iconst 1, 1) := by decide +kernel
theorem dX0_visit_192 : decode cX0_visit 192 = .ok (.iload 5, 2) := by decide +kernel
theorem dX0_visit_194 : decode cX0_visit 194 = .ok (.ishl, 1) := by decide +kernel
theorem dX0_visit_195 : decode cX0_visit 195 = .ok (.ior, 1) := by decide +kernel
theorem dX0_visit_196 : decode cX0_visit 196 = .ok (.putfield 59, 3) := by decide +kernel
theorem dX0_visit_199 : decode cX0_visit 199 = .ok (.iinc 5 1, 3) := by decide +kernel
theorem dX0_visit_202 : decode cX0_visit 202 = .ok (.goto (-85), 3) := by decide +kernel
theorem dX0_visit_205 : decode cX0_visit 205 = .ok (.return_, 1) := by decide +kernel
theorem dX0_uppermostOf_0 : decode cX0_uppermostOf 0 = .ok (.iconst 0, 1) := by decide +kernel
theorem dX0_uppermostOf_1 : decode cX0_uppermostOf 1 = .ok (.istore_n 3, 1) := by decide +kernel
theorem dX0_uppermostOf_2 : decode cX0_uppermostOf 2 = .ok (.iload_n 2, 1) := by decide +kernel
theorem dX0_uppermostOf_3 : decode cX0_uppermostOf 3 = .ok (.istore 4, 2) := by decide +kernel
theorem dX0_uppermostOf_5 : decode cX0_uppermostOf 5 = .ok (.iconst 0, 1) := by decide +kernel
theorem dX0_uppermostOf_6 : decode cX0_uppermostOf 6 = .ok (.istore 5, 2) := by decide +kernel
theorem dX0_uppermostOf_8 : decode cX0_uppermostOf 8 = .ok (.iload 5, 2) := by decide +kernel
theorem dX0_uppermostOf_10 : decode cX0_uppermostOf 10 = .ok (.aload_n 0, 1) := by decide +kernel
theorem dX0_uppermostOf_11 : decode cX0_uppermostOf 11 = .ok (.getfield 63, 3) := by decide +kernel
theorem dX0_uppermostOf_14 : decode cX0_uppermostOf 14 = .ok (.getfield 117, 3) := by decide +kernel
theorem dX0_uppermostOf_17 : decode cX0_uppermostOf 17 = .ok (.if_icmp .ge 40, 3) := by decide +kernel
theorem dX0_uppermostOf_20 : decode cX0_uppermostOf 20 = .ok (.iload 4, 2) := by decide +kernel
theorem dX0_uppermostOf_22 : decode cX0_uppermostOf 22 = .ok (.ifCond .le 35, 3) := by decide +kernel
theorem dX0_uppermostOf_25 : decode cX0_uppermostOf 25 = .ok (.iload_n 1, 1) := by decide +kernel
theorem dX0_uppermostOf_26 : decode cX0_uppermostOf 26 = .ok (.iconst 1, 1) := by decide +kernel
theorem dX0_uppermostOf_27 : decode cX0_uppermostOf 27 = .ok (.aload_n 0, 1) := by decide +kernel
theorem dX0_uppermostOf_28 : decode cX0_uppermostOf 28 = .ok (.getfield 39, 3) := by decide +kernel
theorem dX0_uppermostOf_31 : decode cX0_uppermostOf 31 = .ok (.iload 5, 2) := by decide +kernel
theorem dX0_uppermostOf_33 : decode cX0_uppermostOf 33 = .ok (.iaload, 1) := by decide +kernel
theorem dX0_uppermostOf_34 : decode cX0_uppermostOf 34 = .ok (.ishl, 1) := by decide +kernel
theorem dX0_uppermostOf_35 : decode cX0_uppermostOf 35 = .ok (.iand, 1) := by decide +kernel
theorem dX0_uppermostOf_36 : decode cX0_uppermostOf 36 = .ok (.istore 6, 2) := by decide +kernel
theorem dX0_uppermostOf_38 : decode cX0_uppermostOf 38 = .ok (.iload 6, 2) := by decide +kernel
theorem dX0_uppermostOf_40 : decode cX0_uppermostOf 40 = .ok (.ifCond .eq 11, 3) := by decide +kernel
theorem dX0_uppermostOf_43 : decode cX0_uppermostOf 43 = .ok (.iload_n 3, 1) := by decide +kernel
theorem dX0_uppermostOf_44 : decode cX0_uppermostOf 44 = .ok (.iload 6, 2) := by decide +kernel
theorem dX0_uppermostOf_46 : decode cX0_uppermostOf 46 = .ok (.ior, 1) := by decide +kernel
theorem dX0_uppermostOf_47 : decode cX0_uppermostOf 47 = .ok (.istore_n 3, 1) := by decide +kernel
theorem dX0_uppermostOf_48 : decode cX0_uppermostOf 48 = .ok (.iinc 4 (-1), 3) := by decide +kernel
theorem dX0_uppermostOf_51 : decode cX0_uppermostOf 51 = .ok (.iinc 5 1, 3) := by decide +kernel
theorem dX0_uppermostOf_54 : decode cX0_uppermostOf 54 = .ok (.goto (-46), 3) := by decide +kernel
theorem dX0_uppermostOf_57 : decode cX0_uppermostOf 57 = .ok (.iload_n 3, 1) := by decide +kernel
theorem dX0_uppermostOf_58 : decode cX0_uppermostOf 58 = .ok (.ireturn, 1) := by decide +kernel
theorem dX0_learn_0 : decode cX0_learn 0 = .ok (.iload_n 3, 1) := by decide +kernel
theorem dX0_learn_1 : decode cX0_learn 1 = .ok (.aload_n 0, 1) := by decide +kernel
theorem dX0_learn_2 : decode cX0_learn 2 = .ok (.getfield 42, 3) := by decide +kernel
theorem dX0_learn_5 : decode cX0_learn 5 = .ok (.iload_n 1, 1) := by decide +kernel
theorem dX0_learn_6 : decode cX0_learn 6 = .ok (.iaload, 1) := by decide +kernel
theorem dX0_learn_7 : decode cX0_learn 7 = .ok (.iconst (-1), 1) := by decide +kernel
theorem dX0_learn_8 : decode cX0_learn 8 = .ok (.ixor, 1) := by decide +kernel
theorem dX0_learn_9 : decode cX0_learn 9 = .ok (.iand, 1) := by decide +kernel
theorem dX0_learn_10 : decode cX0_learn 10 = .ok (.istore 4, 2) := by decide +kernel
theorem dX0_learn_12 : decode cX0_learn 12 = .ok (.iconst 0, 1) := by decide +kernel
theorem dX0_learn_13 : decode cX0_learn 13 = .ok (.istore 5, 2) := by decide +kernel
theorem dX0_learn_15 : decode cX0_learn 15 = .ok (.iload 5, 2) := by decide +kernel
theorem dX0_learn_17 : decode cX0_learn 17 = .ok (.aload_n 0, 1) := by decide +kernel
theorem dX0_learn_18 : decode cX0_learn 18 = .ok (.getfield 63, 3) := by decide +kernel
theorem dX0_learn_21 : decode cX0_learn 21 = .ok (.getfield 117, 3) := by decide +kernel
theorem dX0_learn_24 : decode cX0_learn 24 = .ok (.if_icmp .ge 81, 3) := by decide +kernel
theorem dX0_learn_27 : decode cX0_learn 27 = .ok (.iload 4, 2) := by decide +kernel
theorem dX0_learn_29 : decode cX0_learn 29 = .ok (.iload 5, 2) := by decide +kernel
theorem dX0_learn_31 : decode cX0_learn 31 = .ok (.ishr, 1) := by decide +kernel
theorem dX0_learn_32 : decode cX0_learn 32 = .ok (.iconst 1, 1) := by decide +kernel
theorem dX0_learn_33 : decode cX0_learn 33 = .ok (.iand, 1) := by decide +kernel
theorem dX0_learn_34 : decode cX0_learn 34 = .ok (.ifCond .eq 65, 3) := by decide +kernel
theorem dX0_learn_37 : decode cX0_learn 37 = .ok (.aload_n 0, 1) := by decide +kernel
theorem dX0_learn_38 : decode cX0_learn 38 = .ok (.getfield 63, 3) := by decide +kernel
theorem dX0_learn_41 : decode cX0_learn 41 = .ok (.getfield 124, 3) := by decide +kernel
theorem dX0_learn_44 : decode cX0_learn 44 = .ok (.iload 5, 2) := by decide +kernel
theorem dX0_learn_46 : decode cX0_learn 46 = .ok (.aaload, 1) := by decide +kernel
theorem dX0_learn_47 : decode cX0_learn 47 = .ok (.astore 6, 2) := by decide +kernel
theorem dX0_learn_49 : decode cX0_learn 49 = .ok (.aload_n 0, 1) := by decide +kernel
theorem dX0_learn_50 : decode cX0_learn 50 = .ok (.getfield 24, 3) := by decide +kernel
theorem dX0_learn_53 : decode cX0_learn 53 = .ok (.iload_n 1, 1) := by decide +kernel
theorem dX0_learn_54 : decode cX0_learn 54 = .ok (.aaload, 1) := by decide +kernel
theorem dX0_learn_55 : decode cX0_learn 55 = .ok (.iload 5, 2) := by decide +kernel
theorem dX0_learn_57 : decode cX0_learn 57 = .ok (.iload_n 2, 1) := by decide +kernel
theorem dX0_learn_58 : decode cX0_learn 58 = .ok (.iastore, 1) := by decide +kernel
theorem dX0_learn_59 : decode cX0_learn 59 = .ok (.aload_n 0, 1) := by decide +kernel
theorem dX0_learn_60 : decode cX0_learn 60 = .ok (.getfield 45, 3) := by decide +kernel
theorem dX0_learn_63 : decode cX0_learn 63 = .ok (.iload_n 1, 1) := by decide +kernel
theorem dX0_learn_64 : decode cX0_learn 64 = .ok (.aaload, 1) := by decide +kernel
theorem dX0_learn_65 : decode cX0_learn 65 = .ok (.aload 6, 2) := by decide +kernel
theorem dX0_learn_67 : decode cX0_learn 67 = .ok (.getfield 155, 3) := by decide +kernel
theorem dX0_learn_70 : decode cX0_learn 70 = .ok (.dup2, 1) := by decide +kernel
theorem dX0_learn_71 : decode cX0_learn 71 = .ok (.iaload, 1) := by decide +kernel
theorem dX0_learn_72 : decode cX0_learn 72 = .ok (.aload 6, 2) := by decide +kernel
theorem dX0_learn_74 : decode cX0_learn 74 = .ok (.getfield 149, 3) := by decide +kernel
theorem dX0_learn_77 : decode cX0_learn 77 = .ok (.iadd, 1) := by decide +kernel
theorem dX0_learn_78 : decode cX0_learn 78 = .ok (.iastore, 1) := by decide +kernel
theorem dX0_learn_79 : decode cX0_learn 79 = .ok (.aload_n 0, 1) := by decide +kernel
theorem dX0_learn_80 : decode cX0_learn 80 = .ok (.getfield 48, 3) := by decide +kernel
theorem dX0_learn_83 : decode cX0_learn 83 = .ok (.iload_n 1, 1) := by decide +kernel
theorem dX0_learn_84 : decode cX0_learn 84 = .ok (.aaload, 1) := by decide +kernel
theorem dX0_learn_85 : decode cX0_learn 85 = .ok (.aload 6, 2) := by decide +kernel
theorem dX0_learn_87 : decode cX0_learn 87 = .ok (.getfield 155, 3) := by decide +kernel
theorem dX0_learn_90 : decode cX0_learn 90 = .ok (.dup2, 1) := by decide +kernel
theorem dX0_learn_91 : decode cX0_learn 91 = .ok (.iaload, 1) := by decide +kernel
theorem dX0_learn_92 : decode cX0_learn 92 = .ok (.aload 6, 2) := by decide +kernel
theorem dX0_learn_94 : decode cX0_learn 94 = .ok (.getfield 152, 3) := by decide +kernel
theorem dX0_learn_97 : decode cX0_learn 97 = .ok (.iadd, 1) := by decide +kernel
theorem dX0_learn_98 : decode cX0_learn 98 = .ok (.iastore, 1) := by decide +kernel
theorem dX0_learn_99 : decode cX0_learn 99 = .ok (.iinc 5 1, 3) := by decide +kernel
theorem dX0_learn_102 : decode cX0_learn 102 = .ok (.goto (-87), 3) := by decide +kernel
theorem dX0_learn_105 : decode cX0_learn 105 = .ok (.aload_n 0, 1) := by decide +kernel
theorem dX0_learn_106 : decode cX0_learn 106 = .ok (.getfield 42, 3) := by decide +kernel
theorem dX0_learn_109 : decode cX0_learn 109 = .ok (.iload_n 1, 1) := by decide +kernel
theorem dX0_learn_110 : decode cX0_learn 110 = .ok (.dup2, 1) := by decide +kernel
theorem dX0_learn_111 : decode cX0_learn 111 = .ok (.iaload, 1) := by decide +kernel
theorem dX0_learn_112 : decode cX0_learn 112 = .ok (.iload_n 3, 1) := by decide +kernel
theorem dX0_learn_113 : decode cX0_learn 113 = .ok (.ior, 1) := by decide +kernel
theorem dX0_learn_114 : decode cX0_learn 114 = .ok (.iastore, 1) := by decide +kernel
theorem dX0_learn_115 : decode cX0_learn 115 = .ok (.return_, 1) := by decide +kernel
theorem dX0_act_0 : decode cX0_act 0 = .ok (.aload_n 0, 1) := by decide +kernel
theorem dX0_act_1 : decode cX0_act 1 = .ok (.getfield 30, 3) := by decide +kernel
theorem dX0_act_4 : decode cX0_act 4 = .ok (.iload_n 3, 1) := by decide +kernel
theorem dX0_act_5 : decode cX0_act 5 = .ok (.iaload, 1) := by decide +kernel
theorem dX0_act_6 : decode cX0_act 6 = .ok (.ifCond .ne 17, 3) := by decide +kernel
theorem dX0_act_9 : decode cX0_act 9 = .ok (.aload_n 0, 1) := by decide +kernel
theorem dX0_act_10 : decode cX0_act 10 = .ok (.getfield 33, 3) := by decide +kernel
theorem dX0_act_13 : decode cX0_act 13 = .ok (.iload_n 3, 1) := by decide +kernel
theorem dX0_act_14 : decode cX0_act 14 = .ok (.iload_n 2, 1) := by decide +kernel
theorem dX0_act_15 : decode cX0_act 15 = .ok (.iastore, 1) := by decide +kernel
theorem dX0_act_16 : decode cX0_act 16 = .ok (.aload_n 0, 1) := by decide +kernel
theorem dX0_act_17 : decode cX0_act 17 = .ok (.getfield 36, 3) := by decide +kernel
theorem dX0_act_20 : decode cX0_act 20 = .ok (.iload_n 3, 1) := by decide +kernel
theorem dX0_act_21 : decode cX0_act 21 = .ok (.iload_n 1, 1) := by decide +kernel
theorem dX0_act_22 : decode cX0_act 22 = .ok (.iastore, 1) := by decide +kernel
theorem dX0_act_23 : decode cX0_act 23 = .ok (.aload_n 0, 1) := by decide +kernel
theorem dX0_act_24 : decode cX0_act 24 = .ok (.getfield 30, 3) := by decide +kernel
theorem dX0_act_27 : decode cX0_act 27 = .ok (.iload_n 3, 1) := by decide +kernel
theorem dX0_act_28 : decode cX0_act 28 = .ok (.dup2, 1) := by decide +kernel
theorem dX0_act_29 : decode cX0_act 29 = .ok (.iaload, 1) := by decide +kernel
theorem dX0_act_30 : decode cX0_act 30 = .ok (.iconst 1, 1) := by decide +kernel
theorem dX0_act_31 : decode cX0_act 31 = .ok (.iadd, 1) := by decide +kernel
theorem dX0_act_32 : decode cX0_act 32 = .ok (.iastore, 1) := by decide +kernel
theorem dX0_act_33 : decode cX0_act 33 = .ok (.aload_n 0, 1) := by decide +kernel
theorem dX0_act_34 : decode cX0_act 34 = .ok (.getfield 27, 3) := by decide +kernel
theorem dX0_act_37 : decode cX0_act 37 = .ok (.iload_n 3, 1) := by decide +kernel
theorem dX0_act_38 : decode cX0_act 38 = .ok (.aaload, 1) := by decide +kernel
theorem dX0_act_39 : decode cX0_act 39 = .ok (.iload_n 1, 1) := by decide +kernel
theorem dX0_act_40 : decode cX0_act 40 = .ok (.dup2, 1) := by decide +kernel
theorem dX0_act_41 : decode cX0_act 41 = .ok (.iaload, 1) := by decide +kernel
theorem dX0_act_42 : decode cX0_act 42 = .ok (.iconst 1, 1) := by decide +kernel
theorem dX0_act_43 : decode cX0_act 43 = .ok (.iadd, 1) := by decide +kernel
theorem dX0_act_44 : decode cX0_act 44 = .ok (.iastore, 1) := by decide +kernel
theorem dX0_act_45 : decode cX0_act 45 = .ok (.return_, 1) := by decide +kernel
theorem dX0_careFor_0 : decode cX0_careFor 0 = .ok (.iconst 0, 1) := by decide +kernel
theorem dX0_careFor_1 : decode cX0_careFor 1 = .ok (.istore_n 2, 1) := by decide +kernel
theorem dX0_careFor_2 : decode cX0_careFor 2 = .ok (.iconst 0, 1) := by decide +kernel
theorem dX0_careFor_3 : decode cX0_careFor 3 = .ok (.istore_n 3, 1) := by decide +kernel
theorem dX0_careFor_4 : decode cX0_careFor 4 = .ok (.iload_n 3, 1) := by decide +kernel
theorem dX0_careFor_5 : decode cX0_careFor 5 = .ok (.aload_n 0, 1) := by decide +kernel
theorem dX0_careFor_6 : decode cX0_careFor 6 = .ok (.getfield 63, 3) := by decide +kernel
theorem dX0_careFor_9 : decode cX0_careFor 9 = .ok (.getfield 117, 3) := by decide +kernel
theorem dX0_careFor_12 : decode cX0_careFor 12 = .ok (.if_icmp .ge 40, 3) := by decide +kernel
theorem dX0_careFor_15 : decode cX0_careFor 15 = .ok (.aload_n 0, 1) := by decide +kernel
theorem dX0_careFor_16 : decode cX0_careFor 16 = .ok (.getfield 63, 3) := by decide +kernel
theorem dX0_careFor_19 : decode cX0_careFor 19 = .ok (.getfield 124, 3) := by decide +kernel
theorem dX0_careFor_22 : decode cX0_careFor 22 = .ok (.iload_n 3, 1) := by decide +kernel
theorem dX0_careFor_23 : decode cX0_careFor 23 = .ok (.aaload, 1) := by decide +kernel
theorem dX0_careFor_24 : decode cX0_careFor 24 = .ok (.getfield 155, 3) := by decide +kernel
theorem dX0_careFor_27 : decode cX0_careFor 27 = .ok (.iload_n 1, 1) := by decide +kernel
theorem dX0_careFor_28 : decode cX0_careFor 28 = .ok (.if_icmp .ne 18, 3) := by decide +kernel
theorem dX0_careFor_31 : decode cX0_careFor 31 = .ok (.iload_n 2, 1) := by decide +kernel
theorem dX0_careFor_32 : decode cX0_careFor 32 = .ok (.aload_n 0, 1) := by decide +kernel
theorem dX0_careFor_33 : decode cX0_careFor 33 = .ok (.getfield 63, 3) := by decide +kernel
theorem dX0_careFor_36 : decode cX0_careFor 36 = .ok (.getfield 124, 3) := by decide +kernel
theorem dX0_careFor_39 : decode cX0_careFor 39 = .ok (.iload_n 3, 1) := by decide +kernel
theorem dX0_careFor_40 : decode cX0_careFor 40 = .ok (.aaload, 1) := by decide +kernel
theorem dX0_careFor_41 : decode cX0_careFor 41 = .ok (.getfield 152, 3) := by decide +kernel
theorem dX0_careFor_44 : decode cX0_careFor 44 = .ok (.iadd, 1) := by decide +kernel
theorem dX0_careFor_45 : decode cX0_careFor 45 = .ok (.istore_n 2, 1) := by decide +kernel
theorem dX0_careFor_46 : decode cX0_careFor 46 = .ok (.iinc 3 1, 3) := by decide +kernel
theorem dX0_careFor_49 : decode cX0_careFor 49 = .ok (.goto (-45), 3) := by decide +kernel
theorem dX0_careFor_52 : decode cX0_careFor 52 = .ok (.aload_n 0, 1) := by decide +kernel
theorem dX0_careFor_53 : decode cX0_careFor 53 = .ok (.getfield 51, 3) := by decide +kernel
theorem dX0_careFor_56 : decode cX0_careFor 56 = .ok (.iconst 2, 1) := by decide +kernel
theorem dX0_careFor_57 : decode cX0_careFor 57 = .ok (.bipush 48, 2) := by decide +kernel
theorem dX0_careFor_59 : decode cX0_careFor 59 = .ok (.iastore, 1) := by decide +kernel
theorem dX0_careFor_60 : decode cX0_careFor 60 = .ok (.aload_n 0, 1) := by decide +kernel
theorem dX0_careFor_61 : decode cX0_careFor 61 = .ok (.getfield 51, 3) := by decide +kernel
theorem dX0_careFor_64 : decode cX0_careFor 64 = .ok (.iconst 3, 1) := by decide +kernel
theorem dX0_careFor_65 : decode cX0_careFor 65 = .ok (.iconst 0, 1) := by decide +kernel
theorem dX0_careFor_66 : decode cX0_careFor 66 = .ok (.iastore, 1) := by decide +kernel
theorem dX0_careFor_67 : decode cX0_careFor 67 = .ok (.aload_n 0, 1) := by decide +kernel
theorem dX0_careFor_68 : decode cX0_careFor 68 = .ok (.getfield 51, 3) := by decide +kernel
theorem dX0_careFor_71 : decode cX0_careFor 71 = .ok (.iconst 4, 1) := by decide +kernel
theorem dX0_careFor_72 : decode cX0_careFor 72 = .ok (.iconst 0, 1) := by decide +kernel
theorem dX0_careFor_73 : decode cX0_careFor 73 = .ok (.iastore, 1) := by decide +kernel
theorem dX0_careFor_74 : decode cX0_careFor 74 = .ok (.aload_n 0, 1) := by decide +kernel
theorem dX0_careFor_75 : decode cX0_careFor 75 = .ok (.iconst 2, 1) := by decide +kernel
theorem dX0_careFor_76 : decode cX0_careFor 76 = .ok (.aload_n 0, 1) := by decide +kernel
theorem dX0_careFor_77 : decode cX0_careFor 77 = .ok (.iload_n 1, 1) := by decide +kernel
theorem dX0_careFor_78 : decode cX0_careFor 78 = .ok (.invokevirtual 108, 3) := by decide +kernel
theorem dX0_careFor_81 : decode cX0_careFor 81 = .ok (.iload_n 2, 1) := by decide +kernel
theorem dX0_careFor_82 : decode cX0_careFor 82 = .ok (.iload_n 1, 1) := by decide +kernel
theorem dX0_careFor_83 : decode cX0_careFor 83 = .ok (.invokevirtual 142, 3) := by decide +kernel
theorem dX0_careFor_86 : decode cX0_careFor 86 = .ok (.istore_n 3, 1) := by decide +kernel
theorem dX0_careFor_87 : decode cX0_careFor 87 = .ok (.iconst 0, 1) := by decide +kernel
theorem dX0_careFor_88 : decode cX0_careFor 88 = .ok (.bipush 99, 2) := by decide +kernel
theorem dX0_careFor_90 : decode cX0_careFor 90 = .ok (.iload_n 3, 1) := by decide +kernel
theorem dX0_careFor_91 : decode cX0_careFor 91 = .ok (.invokestatic 158, 3) := by decide +kernel
theorem dX0_careFor_94 : decode cX0_careFor 94 = .ok (.invokestatic 102, 3) := by decide +kernel
theorem dX0_careFor_97 : decode cX0_careFor 97 = .ok (.ireturn, 1) := by decide +kernel
theorem dX0_askedInAll_0 : decode cX0_askedInAll 0 = .ok (.iconst 0, 1) := by decide +kernel
theorem dX0_askedInAll_1 : decode cX0_askedInAll 1 = .ok (.istore_n 2, 1) := by decide +kernel
theorem dX0_askedInAll_2 : decode cX0_askedInAll 2 = .ok (.iconst 0, 1) := by decide +kernel
theorem dX0_askedInAll_3 : decode cX0_askedInAll 3 = .ok (.istore_n 3, 1) := by decide +kernel
theorem dX0_askedInAll_4 : decode cX0_askedInAll 4 = .ok (.iload_n 3, 1) := by decide +kernel
theorem dX0_askedInAll_5 : decode cX0_askedInAll 5 = .ok (.aload_n 0, 1) := by decide +kernel
theorem dX0_askedInAll_6 : decode cX0_askedInAll 6 = .ok (.getfield 63, 3) := by decide +kernel
theorem dX0_askedInAll_9 : decode cX0_askedInAll 9 = .ok (.getfield 117, 3) := by decide +kernel
theorem dX0_askedInAll_12 : decode cX0_askedInAll 12 = .ok (.if_icmp .ge 40, 3) := by decide +kernel
theorem dX0_askedInAll_15 : decode cX0_askedInAll 15 = .ok (.aload_n 0, 1) := by decide +kernel
theorem dX0_askedInAll_16 : decode cX0_askedInAll 16 = .ok (.getfield 63, 3) := by decide +kernel
theorem dX0_askedInAll_19 : decode cX0_askedInAll 19 = .ok (.getfield 124, 3) := by decide +kernel
theorem dX0_askedInAll_22 : decode cX0_askedInAll 22 = .ok (.iload_n 3, 1) := by decide +kernel
theorem dX0_askedInAll_23 : decode cX0_askedInAll 23 = .ok (.aaload, 1) := by decide +kernel
theorem dX0_askedInAll_24 : decode cX0_askedInAll 24 = .ok (.getfield 155, 3) := by decide +kernel
theorem dX0_askedInAll_27 : decode cX0_askedInAll 27 = .ok (.iload_n 1, 1) := by decide +kernel
theorem dX0_askedInAll_28 : decode cX0_askedInAll 28 = .ok (.if_icmp .ne 18, 3) := by decide +kernel
theorem dX0_askedInAll_31 : decode cX0_askedInAll 31 = .ok (.iload_n 2, 1) := by decide +kernel
theorem dX0_askedInAll_32 : decode cX0_askedInAll 32 = .ok (.aload_n 0, 1) := by decide +kernel
theorem dX0_askedInAll_33 : decode cX0_askedInAll 33 = .ok (.getfield 63, 3) := by decide +kernel
theorem dX0_askedInAll_36 : decode cX0_askedInAll 36 = .ok (.getfield 124, 3) := by decide +kernel
theorem dX0_askedInAll_39 : decode cX0_askedInAll 39 = .ok (.iload_n 3, 1) := by decide +kernel
theorem dX0_askedInAll_40 : decode cX0_askedInAll 40 = .ok (.aaload, 1) := by decide +kernel
theorem dX0_askedInAll_41 : decode cX0_askedInAll 41 = .ok (.getfield 149, 3) := by decide +kernel
theorem dX0_askedInAll_44 : decode cX0_askedInAll 44 = .ok (.iadd, 1) := by decide +kernel
theorem dX0_askedInAll_45 : decode cX0_askedInAll 45 = .ok (.istore_n 2, 1) := by decide +kernel
theorem dX0_askedInAll_46 : decode cX0_askedInAll 46 = .ok (.iinc 3 1, 3) := by decide +kernel
theorem dX0_askedInAll_49 : decode cX0_askedInAll 49 = .ok (.goto (-45), 3) := by decide +kernel
theorem dX0_askedInAll_52 : decode cX0_askedInAll 52 = .ok (.iload_n 2, 1) := by decide +kernel
theorem dX0_askedInAll_53 : decode cX0_askedInAll 53 = .ok (.ireturn, 1) := by decide +kernel
theorem dX0_says_0 : decode cX0_says 0 = .ok (.aload_n 0, 1) := by decide +kernel
theorem dX0_says_1 : decode cX0_says 1 = .ok (.getfield 51, 3) := by decide +kernel
theorem dX0_says_4 : decode cX0_says 4 = .ok (.iconst 0, 1) := by decide +kernel
theorem dX0_says_5 : decode cX0_says 5 = .ok (.iload_n 2, 1) := by decide +kernel
theorem dX0_says_6 : decode cX0_says 6 = .ok (.iastore, 1) := by decide +kernel
theorem dX0_says_7 : decode cX0_says 7 = .ok (.aload_n 0, 1) := by decide +kernel
theorem dX0_says_8 : decode cX0_says 8 = .ok (.getfield 51, 3) := by decide +kernel
theorem dX0_says_11 : decode cX0_says 11 = .ok (.iconst 1, 1) := by decide +kernel
theorem dX0_says_12 : decode cX0_says 12 = .ok (.iload_n 3, 1) := by decide +kernel
theorem dX0_says_13 : decode cX0_says 13 = .ok (.iastore, 1) := by decide +kernel
theorem dX0_says_14 : decode cX0_says 14 = .ok (.aload_n 0, 1) := by decide +kernel
theorem dX0_says_15 : decode cX0_says 15 = .ok (.getfield 51, 3) := by decide +kernel
theorem dX0_says_18 : decode cX0_says 18 = .ok (.iconst 5, 1) := by decide +kernel
theorem dX0_says_19 : decode cX0_says 19 = .ok (.iload 4, 2) := by decide +kernel
theorem dX0_says_21 : decode cX0_says 21 = .ok (.iastore, 1) := by decide +kernel
theorem dX0_says_22 : decode cX0_says 22 = .ok (.aload_n 0, 1) := by decide +kernel
theorem dX0_says_23 : decode cX0_says 23 = .ok (.getfield 63, 3) := by decide +kernel
theorem dX0_says_26 : decode cX0_says 26 = .ok (.getfield 161, 3) := by decide +kernel
theorem dX0_says_29 : decode cX0_says 29 = .ok (.aload_n 0, 1) := by decide +kernel
theorem dX0_says_30 : decode cX0_says 30 = .ok (.getfield 63, 3) := by decide +kernel
theorem dX0_says_33 : decode cX0_says 33 = .ok (.getfield 165, 3) := by decide +kernel
theorem dX0_says_36 : decode cX0_says 36 = .ok (.aaload, 1) := by decide +kernel
theorem dX0_says_37 : decode cX0_says 37 = .ok (.iload_n 1, 1) := by decide +kernel
theorem dX0_says_38 : decode cX0_says 38 = .ok (.aload_n 0, 1) := by decide +kernel
theorem dX0_says_39 : decode cX0_says 39 = .ok (.getfield 51, 3) := by decide +kernel
theorem dX0_says_42 : decode cX0_says 42 = .ok (.aload_n 0, 1) := by decide +kernel
theorem dX0_says_43 : decode cX0_says 43 = .ok (.getfield 56, 3) := by decide +kernel
theorem dX0_says_46 : decode cX0_says 46 = .ok (.invokevirtual 168, 3) := by decide +kernel
theorem dX0_says_49 : decode cX0_says 49 = .ok (.ireturn, 1) := by decide +kernel
theorem dX1_init_0 : decode cX1_init 0 = .ok (.aload_n 0, 1) := by decide +kernel
theorem dX1_init_1 : decode cX1_init 1 = .ok (.invokespecial 3, 3) := by decide +kernel
theorem dX1_init_4 : decode cX1_init 4 = .ok (.aload_n 0, 1) := by decide +kernel
theorem dX1_init_5 : decode cX1_init 5 = .ok (.iconst 4, 1) := by decide +kernel
theorem dX1_init_6 : decode cX1_init 6 = .ok (.newarray .int, 2) := by decide +kernel
theorem dX1_init_8 : decode cX1_init 8 = .ok (.dup, 1) := by decide +kernel
theorem dX1_init_9 : decode cX1_init 9 = .ok (.iconst 0, 1) := by decide +kernel
theorem dX1_init_10 : decode cX1_init 10 = .ok (.iconst 0, 1) := by decide +kernel
theorem dX1_init_11 : decode cX1_init 11 = .ok (.iastore, 1) := by decide +kernel
theorem dX1_init_12 : decode cX1_init 12 = .ok (.dup, 1) := by decide +kernel
theorem dX1_init_13 : decode cX1_init 13 = .ok (.iconst 1, 1) := by decide +kernel
theorem dX1_init_14 : decode cX1_init 14 = .ok (.iconst 1, 1) := by decide +kernel
theorem dX1_init_15 : decode cX1_init 15 = .ok (.iastore, 1) := by decide +kernel
theorem dX1_init_16 : decode cX1_init 16 = .ok (.dup, 1) := by decide +kernel
theorem dX1_init_17 : decode cX1_init 17 = .ok (.iconst 2, 1) := by decide +kernel
theorem dX1_init_18 : decode cX1_init 18 = .ok (.iconst 0, 1) := by decide +kernel
theorem dX1_init_19 : decode cX1_init 19 = .ok (.iastore, 1) := by decide +kernel
theorem dX1_init_20 : decode cX1_init 20 = .ok (.dup, 1) := by decide +kernel
theorem dX1_init_21 : decode cX1_init 21 = .ok (.iconst 3, 1) := by decide +kernel
theorem dX1_init_22 : decode cX1_init 22 = .ok (.iconst 0, 1) := by decide +kernel
theorem dX1_init_23 : decode cX1_init 23 = .ok (.iastore, 1) := by decide +kernel
theorem dX1_init_24 : decode cX1_init 24 = .ok (.putfield 9, 3) := by decide +kernel
theorem dX1_init_27 : decode cX1_init 27 = .ok (.return_, 1) := by decide +kernel
theorem dX1_comesIn_0 : decode cX1_comesIn 0 = .ok (.aload_n 0, 1) := by decide +kernel
theorem dX1_comesIn_1 : decode cX1_comesIn 1 = .ok (.getfield 9, 3) := by decide +kernel
theorem dX1_comesIn_4 : decode cX1_comesIn 4 = .ok (.iconst 1, 1) := by decide +kernel
theorem dX1_comesIn_5 : decode cX1_comesIn 5 = .ok (.iaload, 1) := by decide +kernel
theorem dX1_comesIn_6 : decode cX1_comesIn 6 = .ok (.istore_n 2, 1) := by decide +kernel
theorem dX1_comesIn_7 : decode cX1_comesIn 7 = .ok (.iload_n 2, 1) := by decide +kernel
theorem dX1_comesIn_8 : decode cX1_comesIn 8 = .ok (.ifCond .le 30, 3) := by decide +kernel
theorem dX1_comesIn_11 : decode cX1_comesIn 11 = .ok (.iload_n 1, 1) := by decide +kernel
theorem dX1_comesIn_12 : decode cX1_comesIn 12 = .ok (.aload_n 0, 1) := by decide +kernel
theorem dX1_comesIn_13 : decode cX1_comesIn 13 = .ok (.getfield 9, 3) := by decide +kernel
theorem dX1_comesIn_16 : decode cX1_comesIn 16 = .ok (.iconst 0, 1) := by decide +kernel
theorem dX1_comesIn_17 : decode cX1_comesIn 17 = .ok (.iaload, 1) := by decide +kernel
theorem dX1_comesIn_18 : decode cX1_comesIn 18 = .ok (.if_icmp .lt 20, 3) := by decide +kernel
theorem dX1_comesIn_21 : decode cX1_comesIn 21 = .ok (.iload_n 1, 1) := by decide +kernel
theorem dX1_comesIn_22 : decode cX1_comesIn 22 = .ok (.aload_n 0, 1) := by decide +kernel
theorem dX1_comesIn_23 : decode cX1_comesIn 23 = .ok (.getfield 9, 3) := by decide +kernel
theorem dX1_comesIn_26 : decode cX1_comesIn 26 = .ok (.iconst 0, 1) := by decide +kernel
theorem dX1_comesIn_27 : decode cX1_comesIn 27 = .ok (.iaload, 1) := by decide +kernel
theorem dX1_comesIn_28 : decode cX1_comesIn 28 = .ok (.isub, 1) := by decide +kernel
theorem dX1_comesIn_29 : decode cX1_comesIn 29 = .ok (.iload_n 2, 1) := by decide +kernel
theorem dX1_comesIn_30 : decode cX1_comesIn 30 = .ok (.irem, 1) := by decide +kernel
theorem dX1_comesIn_31 : decode cX1_comesIn 31 = .ok (.ifCond .ne 7, 3) := by decide +kernel
theorem dX1_comesIn_34 : decode cX1_comesIn 34 = .ok (.iconst 1, 1) := by decide +kernel
theorem dX1_comesIn_35 : decode cX1_comesIn 35 = .ok (.goto 4, 3) := by decide +kernel
theorem dX1_comesIn_38 : decode cX1_comesIn 38 = .ok (.iconst 0, 1) := by decide +kernel
theorem dX1_comesIn_39 : decode cX1_comesIn 39 = .ok (.ireturn, 1) := by decide +kernel
theorem dX2_init_0 : decode cX2_init 0 = .ok (.aload_n 0, 1) := by decide +kernel
theorem dX2_init_1 : decode cX2_init 1 = .ok (.invokespecial 3, 3) := by decide +kernel
theorem dX2_init_4 : decode cX2_init 4 = .ok (.aload_n 0, 1) := by decide +kernel
theorem dX2_init_5 : decode cX2_init 5 = .ok (.iconst 0, 1) := by decide +kernel
theorem dX2_init_6 : decode cX2_init 6 = .ok (.putfield 9, 3) := by decide +kernel
theorem dX2_init_9 : decode cX2_init 9 = .ok (.aload_n 0, 1) := by decide +kernel
theorem dX2_init_10 : decode cX2_init 10 = .ok (.iconst 0, 1) := by decide +kernel
theorem dX2_init_11 : decode cX2_init 11 = .ok (.putfield 15, 3) := by decide +kernel
theorem dX2_init_14 : decode cX2_init 14 = .ok (.aload_n 0, 1) := by decide +kernel
theorem dX2_init_15 : decode cX2_init 15 = .ok (.iconst 5, 1) := by decide +kernel
theorem dX2_init_16 : decode cX2_init 16 = .ok (.iconst 4, 1) := by decide +kernel
theorem dX2_init_17 : decode cX2_init 17 = .ok (.multianewarray 19 2, 4) := by decide +kernel
theorem dX2_init_21 : decode cX2_init 21 = .ok (.putfield 21, 3) := by decide +kernel
theorem dX2_init_24 : decode cX2_init 24 = .ok (.aload_n 0, 1) := by decide +kernel
theorem dX2_init_25 : decode cX2_init 25 = .ok (.iconst 0, 1) := by decide +kernel
theorem dX2_init_26 : decode cX2_init 26 = .ok (.putfield 24, 3) := by decide +kernel
theorem dX2_init_29 : decode cX2_init 29 = .ok (.aload_n 0, 1) := by decide +kernel
theorem dX2_init_30 : decode cX2_init 30 = .ok (.bipush 10, 2) := by decide +kernel
theorem dX2_init_32 : decode cX2_init 32 = .ok (.newarray .int, 2) := by decide +kernel
theorem dX2_init_34 : decode cX2_init 34 = .ok (.putfield 27, 3) := by decide +kernel
theorem dX2_init_37 : decode cX2_init 37 = .ok (.aload_n 0, 1) := by decide +kernel
theorem dX2_init_38 : decode cX2_init 38 = .ok (.iconst 0, 1) := by decide +kernel
theorem dX2_init_39 : decode cX2_init 39 = .ok (.putfield 31, 3) := by decide +kernel
theorem dX2_init_42 : decode cX2_init 42 = .ok (.aload_n 0, 1) := by decide +kernel
theorem dX2_init_43 : decode cX2_init 43 = .ok (.iconst 0, 1) := by decide +kernel
theorem dX2_init_44 : decode cX2_init 44 = .ok (.putfield 34, 3) := by decide +kernel
theorem dX2_init_47 : decode cX2_init 47 = .ok (.return_, 1) := by decide +kernel
theorem dX3_init_0 : decode cX3_init 0 = .ok (.aload_n 0, 1) := by decide +kernel
theorem dX3_init_1 : decode cX3_init 1 = .ok (.invokespecial 3, 3) := by decide +kernel
theorem dX3_init_4 : decode cX3_init 4 = .ok (.aload_n 0, 1) := by decide +kernel
theorem dX3_init_5 : decode cX3_init 5 = .ok (.bipush 20, 2) := by decide +kernel
theorem dX3_init_7 : decode cX3_init 7 = .ok (.newarray .int, 2) := by decide +kernel
theorem dX3_init_9 : decode cX3_init 9 = .ok (.putfield 9, 3) := by decide +kernel
theorem dX3_init_12 : decode cX3_init 12 = .ok (.aload_n 0, 1) := by decide +kernel
theorem dX3_init_13 : decode cX3_init 13 = .ok (.bipush 20, 2) := by decide +kernel
theorem dX3_init_15 : decode cX3_init 15 = .ok (.newarray .int, 2) := by decide +kernel
theorem dX3_init_17 : decode cX3_init 17 = .ok (.putfield 15, 3) := by decide +kernel
theorem dX3_init_20 : decode cX3_init 20 = .ok (.aload_n 0, 1) := by decide +kernel
theorem dX3_init_21 : decode cX3_init 21 = .ok (.iconst 0, 1) := by decide +kernel
theorem dX3_init_22 : decode cX3_init 22 = .ok (.putfield 18, 3) := by decide +kernel
theorem dX3_init_25 : decode cX3_init 25 = .ok (.aload_n 0, 1) := by decide +kernel
theorem dX3_init_26 : decode cX3_init 26 = .ok (.bipush 10, 2) := by decide +kernel
theorem dX3_init_28 : decode cX3_init 28 = .ok (.newarray .int, 2) := by decide +kernel
theorem dX3_init_30 : decode cX3_init 30 = .ok (.putfield 22, 3) := by decide +kernel
theorem dX3_init_33 : decode cX3_init 33 = .ok (.aload_n 0, 1) := by decide +kernel
theorem dX3_init_34 : decode cX3_init 34 = .ok (.sipush 1024, 3) := by decide +kernel
theorem dX3_init_37 : decode cX3_init 37 = .ok (.newarray .int, 2) := by decide +kernel
theorem dX3_init_39 : decode cX3_init 39 = .ok (.putfield 25, 3) := by decide +kernel
theorem dX3_init_42 : decode cX3_init 42 = .ok (.return_, 1) := by decide +kernel
theorem dX3_add_0 : decode cX3_add 0 = .ok (.aload_n 0, 1) := by decide +kernel
theorem dX3_add_1 : decode cX3_add 1 = .ok (.getfield 18, 3) := by decide +kernel
theorem dX3_add_4 : decode cX3_add 4 = .ok (.bipush 20, 2) := by decide +kernel
theorem dX3_add_6 : decode cX3_add 6 = .ok (.if_icmp .lt 5, 3) := by decide +kernel
theorem dX3_add_9 : decode cX3_add 9 = .ok (.iconst 0, 1) := by decide +kernel
theorem dX3_add_10 : decode cX3_add 10 = .ok (.ireturn, 1) := by decide +kernel
theorem dX3_add_11 : decode cX3_add 11 = .ok (.aload_n 0, 1) := by decide +kernel
theorem dX3_add_12 : decode cX3_add 12 = .ok (.getfield 9, 3) := by decide +kernel
theorem dX3_add_15 : decode cX3_add 15 = .ok (.aload_n 0, 1) := by decide +kernel
theorem dX3_add_16 : decode cX3_add 16 = .ok (.getfield 18, 3) := by decide +kernel
theorem dX3_add_19 : decode cX3_add 19 = .ok (.iload_n 1, 1) := by decide +kernel
theorem dX3_add_20 : decode cX3_add 20 = .ok (.iastore, 1) := by decide +kernel
theorem dX3_add_21 : decode cX3_add 21 = .ok (.aload_n 0, 1) := by decide +kernel
theorem dX3_add_22 : decode cX3_add 22 = .ok (.getfield 15, 3) := by decide +kernel
theorem dX3_add_25 : decode cX3_add 25 = .ok (.aload_n 0, 1) := by decide +kernel
theorem dX3_add_26 : decode cX3_add 26 = .ok (.getfield 18, 3) := by decide +kernel
theorem dX3_add_29 : decode cX3_add 29 = .ok (.iload_n 2, 1) := by decide +kernel
theorem dX3_add_30 : decode cX3_add 30 = .ok (.iastore, 1) := by decide +kernel
theorem dX3_add_31 : decode cX3_add 31 = .ok (.aload_n 0, 1) := by decide +kernel
theorem dX3_add_32 : decode cX3_add 32 = .ok (.dup, 1) := by decide +kernel
theorem dX3_add_33 : decode cX3_add 33 = .ok (.getfield 18, 3) := by decide +kernel
theorem dX3_add_36 : decode cX3_add 36 = .ok (.iconst 1, 1) := by decide +kernel
theorem dX3_add_37 : decode cX3_add 37 = .ok (.iadd, 1) := by decide +kernel
theorem dX3_add_38 : decode cX3_add 38 = .ok (.putfield 18, 3) := by decide +kernel
theorem dX3_add_41 : decode cX3_add 41 = .ok (.iconst 1, 1) := by decide +kernel
theorem dX3_add_42 : decode cX3_add 42 = .ok (.ireturn, 1) := by decide +kernel
theorem dX3_ordersOf_0 : decode cX3_ordersOf 0 = .ok (.aload_n 0, 1) := by decide +kernel
theorem dX3_ordersOf_1 : decode cX3_ordersOf 1 = .ok (.getfield 22, 3) := by decide +kernel
theorem dX3_ordersOf_4 : decode cX3_ordersOf 4 = .ok (.iconst 0, 1) := by decide +kernel
theorem dX3_ordersOf_5 : decode cX3_ordersOf 5 = .ok (.invokestatic 28, 3) := by decide +kernel
theorem dX3_ordersOf_8 : decode cX3_ordersOf 8 = .ok (.iconst 0, 1) := by decide +kernel
theorem dX3_ordersOf_9 : decode cX3_ordersOf 9 = .ok (.istore 4, 2) := by decide +kernel
theorem dX3_ordersOf_11 : decode cX3_ordersOf 11 = .ok (.iload 4, 2) := by decide +kernel
theorem dX3_ordersOf_13 : decode cX3_ordersOf 13 = .ok (.aload_n 0, 1) := by decide +kernel
theorem dX3_ordersOf_14 : decode cX3_ordersOf 14 = .ok (.getfield 18, 3) := by decide +kernel
theorem dX3_ordersOf_17 : decode cX3_ordersOf 17 = .ok (.if_icmp .ge 33, 3) := by decide +kernel
theorem dX3_ordersOf_20 : decode cX3_ordersOf 20 = .ok (.aload_n 0, 1) := by decide +kernel
theorem dX3_ordersOf_21 : decode cX3_ordersOf 21 = .ok (.getfield 22, 3) := by decide +kernel
theorem dX3_ordersOf_24 : decode cX3_ordersOf 24 = .ok (.aload_n 0, 1) := by decide +kernel
theorem dX3_ordersOf_25 : decode cX3_ordersOf 25 = .ok (.getfield 15, 3) := by decide +kernel
theorem dX3_ordersOf_28 : decode cX3_ordersOf 28 = .ok (.iload 4, 2) := by decide +kernel
theorem dX3_ordersOf_30 : decode cX3_ordersOf 30 = .ok (.iaload, 1) := by decide +kernel
theorem dX3_ordersOf_31 : decode cX3_ordersOf 31 = .ok (.dup2, 1) := by decide +kernel
theorem dX3_ordersOf_32 : decode cX3_ordersOf 32 = .ok (.iaload, 1) := by decide +kernel
theorem dX3_ordersOf_33 : decode cX3_ordersOf 33 = .ok (.iconst 1, 1) := by decide +kernel
theorem dX3_ordersOf_34 : decode cX3_ordersOf 34 = .ok (.aload_n 0, 1) := by decide +kernel
theorem dX3_ordersOf_35 : decode cX3_ordersOf 35 = .ok (.getfield 9, 3) := by decide +kernel
theorem dX3_ordersOf_38 : decode cX3_ordersOf 38 = .ok (.iload 4, 2) := by decide +kernel
theorem dX3_ordersOf_40 : decode cX3_ordersOf 40 = .ok (.iaload, 1) := by decide +kernel
theorem dX3_ordersOf_41 : decode cX3_ordersOf 41 = .ok (.ishl, 1) := by decide +kernel
theorem dX3_ordersOf_42 : decode cX3_ordersOf 42 = .ok (.ior, 1) := by decide +kernel
theorem dX3_ordersOf_43 : decode cX3_ordersOf 43 = .ok (.iastore, 1) := by decide +kernel
theorem dX3_ordersOf_44 : decode cX3_ordersOf 44 = .ok (.iinc 4 1, 3) := by decide +kernel
theorem dX3_ordersOf_47 : decode cX3_ordersOf 47 = .ok (.goto (-36), 3) := by decide +kernel
theorem dX3_ordersOf_50 : decode cX3_ordersOf 50 = .ok (.iload_n 2, 1) := by decide +kernel
theorem dX3_ordersOf_51 : decode cX3_ordersOf 51 = .ok (.iconst (-1), 1) := by decide +kernel
theorem dX3_ordersOf_52 : decode cX3_ordersOf 52 = .ok (.if_icmp .eq 20, 3) := by decide +kernel
theorem dX3_ordersOf_55 : decode cX3_ordersOf 55 = .ok (.iload_n 3, 1) := by decide +kernel
theorem dX3_ordersOf_56 : decode cX3_ordersOf 56 = .ok (.iconst (-1), 1) := by decide +kernel
theorem dX3_ordersOf_57 : decode cX3_ordersOf 57 = .ok (.if_icmp .eq 15, 3) := by decide +kernel
theorem dX3_ordersOf_60 : decode cX3_ordersOf 60 = .ok (.aload_n 0, 1) := by decide +kernel
theorem dX3_ordersOf_61 : decode cX3_ordersOf 61 = .ok (.getfield 22, 3) := by decide +kernel
theorem dX3_ordersOf_64 : decode cX3_ordersOf 64 = .ok (.iload_n 3, 1) := by decide +kernel
theorem dX3_ordersOf_65 : decode cX3_ordersOf 65 = .ok (.dup2, 1) := by decide +kernel
theorem dX3_ordersOf_66 : decode cX3_ordersOf 66 = .ok (.iaload, 1) := by decide +kernel
theorem dX3_ordersOf_67 : decode cX3_ordersOf 67 = .ok (.iconst 1, 1) := by decide +kernel
theorem dX3_ordersOf_68 : decode cX3_ordersOf 68 = .ok (.iload_n 2, 1) := by decide +kernel
theorem dX3_ordersOf_69 : decode cX3_ordersOf 69 = .ok (.ishl, 1) := by decide +kernel
theorem dX3_ordersOf_70 : decode cX3_ordersOf 70 = .ok (.ior, 1) := by decide +kernel
theorem dX3_ordersOf_71 : decode cX3_ordersOf 71 = .ok (.iastore, 1) := by decide +kernel
theorem dX3_ordersOf_72 : decode cX3_ordersOf 72 = .ok (.iconst 1, 1) := by decide +kernel
theorem dX3_ordersOf_73 : decode cX3_ordersOf 73 = .ok (.iload_n 1, 1) := by decide +kernel
theorem dX3_ordersOf_74 : decode cX3_ordersOf 74 = .ok (.ishl, 1) := by decide +kernel
theorem dX3_ordersOf_75 : decode cX3_ordersOf 75 = .ok (.iconst 1, 1) := by decide +kernel
theorem dX3_ordersOf_76 : decode cX3_ordersOf 76 = .ok (.isub, 1) := by decide +kernel
theorem dX3_ordersOf_77 : decode cX3_ordersOf 77 = .ok (.istore 4, 2) := by decide +kernel
theorem dX3_ordersOf_79 : decode cX3_ordersOf 79 = .ok (.aload_n 0, 1) := by decide +kernel
theorem dX3_ordersOf_80 : decode cX3_ordersOf 80 = .ok (.getfield 25, 3) := by decide +kernel
theorem dX3_ordersOf_83 : decode cX3_ordersOf 83 = .ok (.iconst 0, 1) := by decide +kernel
theorem dX3_ordersOf_84 : decode cX3_ordersOf 84 = .ok (.iconst 1, 1) := by decide +kernel
theorem dX3_ordersOf_85 : decode cX3_ordersOf 85 = .ok (.iastore, 1) := by decide +kernel
theorem dX3_ordersOf_86 : decode cX3_ordersOf 86 = .ok (.iconst 1, 1) := by decide +kernel
theorem dX3_ordersOf_87 : decode cX3_ordersOf 87 = .ok (.istore 5, 2) := by decide +kernel
theorem dX3_ordersOf_89 : decode cX3_ordersOf 89 = .ok (.iload 5, 2) := by decide +kernel
theorem dX3_ordersOf_91 : decode cX3_ordersOf 91 = .ok (.iload 4, 2) := by decide +kernel
theorem dX3_ordersOf_93 : decode cX3_ordersOf 93 = .ok (.if_icmp .gt 23, 3) := by decide +kernel
theorem dX3_ordersOf_96 : decode cX3_ordersOf 96 = .ok (.aload_n 0, 1) := by decide +kernel
theorem dX3_ordersOf_97 : decode cX3_ordersOf 97 = .ok (.getfield 25, 3) := by decide +kernel
theorem dX3_ordersOf_100 : decode cX3_ordersOf 100 = .ok (.iload 5, 2) := by decide +kernel
theorem dX3_ordersOf_102 : decode cX3_ordersOf 102 = .ok (.aload_n 0, 1) := by decide +kernel
theorem dX3_ordersOf_103 : decode cX3_ordersOf 103 = .ok (.iload 5, 2) := by decide +kernel
theorem dX3_ordersOf_105 : decode cX3_ordersOf 105 = .ok (.iload_n 1, 1) := by decide +kernel
theorem dX3_ordersOf_106 : decode cX3_ordersOf 106 = .ok (.invokevirtual 34, 3) := by decide +kernel
theorem dX3_ordersOf_109 : decode cX3_ordersOf 109 = .ok (.iastore, 1) := by decide +kernel
theorem dX3_ordersOf_110 : decode cX3_ordersOf 110 = .ok (.iinc 5 1, 3) := by decide +kernel
theorem dX3_ordersOf_113 : decode cX3_ordersOf 113 = .ok (.goto (-24), 3) := by decide +kernel
theorem dX3_ordersOf_116 : decode cX3_ordersOf 116 = .ok (.aload_n 0, 1) := by decide +kernel
theorem dX3_ordersOf_117 : decode cX3_ordersOf 117 = .ok (.getfield 25, 3) := by decide +kernel
theorem dX3_ordersOf_120 : decode cX3_ordersOf 120 = .ok (.iload 4, 2) := by decide +kernel
theorem dX3_ordersOf_122 : decode cX3_ordersOf 122 = .ok (.iaload, 1) := by decide +kernel
theorem dX3_ordersOf_123 : decode cX3_ordersOf 123 = .ok (.ireturn, 1) := by decide +kernel
theorem dX3_waysOf_0 : decode cX3_waysOf 0 = .ok (.iconst 0, 1) := by decide +kernel
theorem dX3_waysOf_1 : decode cX3_waysOf 1 = .ok (.istore_n 3, 1) := by decide +kernel
theorem dX3_waysOf_2 : decode cX3_waysOf 2 = .ok (.iconst 0, 1) := by decide +kernel
theorem dX3_waysOf_3 : decode cX3_waysOf 3 = .ok (.istore 4, 2) := by decide +kernel
theorem dX3_waysOf_5 : decode cX3_waysOf 5 = .ok (.iload 4, 2) := by decide +kernel
theorem dX3_waysOf_7 : decode cX3_waysOf 7 = .ok (.iload_n 2, 1) := by decide +kernel
theorem dX3_waysOf_8 : decode cX3_waysOf 8 = .ok (.if_icmp .ge 48, 3) := by decide +kernel
theorem dX3_waysOf_11 : decode cX3_waysOf 11 = .ok (.iload_n 1, 1) := by decide +kernel
theorem dX3_waysOf_12 : decode cX3_waysOf 12 = .ok (.iload 4, 2) := by decide +kernel
theorem dX3_waysOf_14 : decode cX3_waysOf 14 = .ok (.ishr, 1) := by decide +kernel
theorem dX3_waysOf_15 : decode cX3_waysOf 15 = .ok (.iconst 1, 1) := by decide +kernel
theorem dX3_waysOf_16 : decode cX3_waysOf 16 = .ok (.iand, 1) := by decide +kernel
theorem dX3_waysOf_17 : decode cX3_waysOf 17 = .ok (.ifCond .eq 33, 3) := by decide +kernel
theorem dX3_waysOf_20 : decode cX3_waysOf 20 = .ok (.aload_n 0, 1) := by decide +kernel
theorem dX3_waysOf_21 : decode cX3_waysOf 21 = .ok (.getfield 22, 3) := by decide +kernel
theorem dX3_waysOf_24 : decode cX3_waysOf 24 = .ok (.iload 4, 2) := by decide +kernel
theorem dX3_waysOf_26 : decode cX3_waysOf 26 = .ok (.iaload, 1) := by decide +kernel
theorem dX3_waysOf_27 : decode cX3_waysOf 27 = .ok (.iload_n 1, 1) := by decide +kernel
theorem dX3_waysOf_28 : decode cX3_waysOf 28 = .ok (.iconst (-1), 1) := by decide +kernel
theorem dX3_waysOf_29 : decode cX3_waysOf 29 = .ok (.ixor, 1) := by decide +kernel
theorem dX3_waysOf_30 : decode cX3_waysOf 30 = .ok (.iand, 1) := by decide +kernel
theorem dX3_waysOf_31 : decode cX3_waysOf 31 = .ok (.ifCond .ne 19, 3) := by decide +kernel
theorem dX3_waysOf_34 : decode cX3_waysOf 34 = .ok (.iload_n 3, 1) := by decide +kernel
theorem dX3_waysOf_35 : decode cX3_waysOf 35 = .ok (.aload_n 0, 1) := by decide +kernel
theorem dX3_waysOf_36 : decode cX3_waysOf 36 = .ok (.getfield 25, 3) := by decide +kernel
theorem dX3_waysOf_39 : decode cX3_waysOf 39 = .ok (.iload_n 1, 1) := by decide +kernel
theorem dX3_waysOf_40 : decode cX3_waysOf 40 = .ok (.iconst 1, 1) := by decide +kernel
theorem dX3_waysOf_41 : decode cX3_waysOf 41 = .ok (.iload 4, 2) := by decide +kernel
theorem dX3_waysOf_43 : decode cX3_waysOf 43 = .ok (.ishl, 1) := by decide +kernel
theorem dX3_waysOf_44 : decode cX3_waysOf 44 = .ok (.iconst (-1), 1) := by decide +kernel
theorem dX3_waysOf_45 : decode cX3_waysOf 45 = .ok (.ixor, 1) := by decide +kernel
theorem dX3_waysOf_46 : decode cX3_waysOf 46 = .ok (.iand, 1) := by decide +kernel
theorem dX3_waysOf_47 : decode cX3_waysOf 47 = .ok (.iaload, 1) := by decide +kernel
theorem dX3_waysOf_48 : decode cX3_waysOf 48 = .ok (.iadd, 1) := by decide +kernel
theorem dX3_waysOf_49 : decode cX3_waysOf 49 = .ok (.istore_n 3, 1) := by decide +kernel
theorem dX3_waysOf_50 : decode cX3_waysOf 50 = .ok (.iinc 4 1, 3) := by decide +kernel
theorem dX3_waysOf_53 : decode cX3_waysOf 53 = .ok (.goto (-48), 3) := by decide +kernel
theorem dX3_waysOf_56 : decode cX3_waysOf 56 = .ok (.iload_n 3, 1) := by decide +kernel
theorem dX3_waysOf_57 : decode cX3_waysOf 57 = .ok (.ireturn, 1) := by decide +kernel
theorem dX3_farthestPlace_0 : decode cX3_farthestPlace 0 = .ok (.iconst (-1), 1) := by decide +kernel
theorem dX3_farthestPlace_1 : decode cX3_farthestPlace 1 = .ok (.istore 4, 2) := by decide +kernel
theorem dX3_farthestPlace_3 : decode cX3_farthestPlace 3 = .ok (.iconst 0, 1) := by decide +kernel
theorem dX3_farthestPlace_4 : decode cX3_farthestPlace 4 = .ok (.istore 5, 2) := by decide +kernel
theorem dX3_farthestPlace_6 : decode cX3_farthestPlace 6 = .ok (.iload 5, 2) := by decide +kernel
theorem dX3_farthestPlace_8 : decode cX3_farthestPlace 8 = .ok (.iconst 1, 1) := by decide +kernel
theorem dX3_farthestPlace_9 : decode cX3_farthestPlace 9 = .ok (.iload_n 1, 1) := by decide +kernel
theorem dX3_farthestPlace_10 : decode cX3_farthestPlace 10 = .ok (.ishl, 1) := by decide +kernel
theorem dX3_farthestPlace_11 : decode cX3_farthestPlace 11 = .ok (.if_icmp .ge 92, 3) := by decide +kernel
theorem dX3_farthestPlace_14 : decode cX3_farthestPlace 14 = .ok (.aload_n 0, 1) := by decide +kernel
theorem dX3_farthestPlace_15 : decode cX3_farthestPlace 15 = .ok (.getfield 25, 3) := by decide +kernel
theorem dX3_farthestPlace_18 : decode cX3_farthestPlace 18 = .ok (.iload 5, 2) := by decide +kernel
theorem dX3_farthestPlace_20 : decode cX3_farthestPlace 20 = .ok (.iaload, 1) := by decide +kernel
theorem dX3_farthestPlace_21 : decode cX3_farthestPlace 21 = .ok (.ifCond .le 30, 3) := by decide +kernel
theorem dX3_farthestPlace_24 : decode cX3_farthestPlace 24 = .ok (.iload 5, 2) := by decide +kernel
theorem dX3_farthestPlace_26 : decode cX3_farthestPlace 26 = .ok (.iload_n 2, 1) := by decide +kernel
theorem dX3_farthestPlace_27 : decode cX3_farthestPlace 27 = .ok (.ishr, 1) := by decide +kernel
theorem dX3_farthestPlace_28 : decode cX3_farthestPlace 28 = .ok (.iconst 1, 1) := by decide +kernel
theorem dX3_farthestPlace_29 : decode cX3_farthestPlace 29 = .ok (.iand, 1) := by decide +kernel
theorem dX3_farthestPlace_30 : decode cX3_farthestPlace 30 = .ok (.ifCond .ne 21, 3) := by decide +kernel
theorem dX3_farthestPlace_33 : decode cX3_farthestPlace 33 = .ok (.aload_n 0, 1) := by decide +kernel
theorem dX3_farthestPlace_34 : decode cX3_farthestPlace 34 = .ok (.getfield 22, 3) := by decide +kernel
theorem dX3_farthestPlace_37 : decode cX3_farthestPlace 37 = .ok (.iload_n 2, 1) := by decide +kernel
theorem dX3_farthestPlace_38 : decode cX3_farthestPlace 38 = .ok (.iaload, 1) := by decide +kernel
theorem dX3_farthestPlace_39 : decode cX3_farthestPlace 39 = .ok (.iload 5, 2) := by decide +kernel
theorem dX3_farthestPlace_41 : decode cX3_farthestPlace 41 = .ok (.iconst (-1), 1) := by decide +kernel
theorem dX3_farthestPlace_42 : decode cX3_farthestPlace 42 = .ok (.ixor, 1) := by decide +kernel
theorem dX3_farthestPlace_43 : decode cX3_farthestPlace 43 = .ok (.iand, 1) := by decide +kernel
theorem dX3_farthestPlace_44 : decode cX3_farthestPlace 44 = .ok (.ifCond .ne 7, 3) := by decide +kernel
theorem dX3_farthestPlace_47 : decode cX3_farthestPlace 47 = .ok (.iconst 1, 1) := by decide +kernel
theorem dX3_farthestPlace_48 : decode cX3_farthestPlace 48 = .ok (.goto 4, 3) := by decide +kernel
theorem dX3_farthestPlace_51 : decode cX3_farthestPlace 51 = .ok (.iconst 0, 1) := by decide +kernel
theorem dX3_farthestPlace_52 : decode cX3_farthestPlace 52 = .ok (.istore 6, 2) := by decide +kernel
theorem dX3_farthestPlace_54 : decode cX3_farthestPlace 54 = .ok (.iload 5, 2) := by decide +kernel
theorem dX3_farthestPlace_56 : decode cX3_farthestPlace 56 = .ok (.invokestatic 38, 3) := by decide +kernel
theorem dX3_farthestPlace_59 : decode cX3_farthestPlace 59 = .ok (.istore 7, 2) := by decide +kernel
theorem dX3_farthestPlace_61 : decode cX3_farthestPlace 61 = .ok (.iload 6, 2) := by decide +kernel
theorem dX3_farthestPlace_63 : decode cX3_farthestPlace 63 = .ok (.ifCond .eq 34, 3) := by decide +kernel
theorem dX3_farthestPlace_66 : decode cX3_farthestPlace 66 = .ok (.iload 4, 2) := by decide +kernel
theorem dX3_farthestPlace_68 : decode cX3_farthestPlace 68 = .ok (.iconst (-1), 1) := by decide +kernel
theorem dX3_farthestPlace_69 : decode cX3_farthestPlace 69 = .ok (.if_icmp .eq 24, 3) := by decide +kernel
theorem dX3_farthestPlace_72 : decode cX3_farthestPlace 72 = .ok (.iload_n 3, 1) := by decide +kernel
theorem dX3_farthestPlace_73 : decode cX3_farthestPlace 73 = .ok (.ifCond .eq 13, 3) := by decide +kernel
theorem dX3_farthestPlace_76 : decode cX3_farthestPlace 76 = .ok (.iload 7, 2) := by decide +kernel
theorem dX3_farthestPlace_78 : decode cX3_farthestPlace 78 = .ok (.iload 4, 2) := by decide +kernel
theorem dX3_farthestPlace_80 : decode cX3_farthestPlace 80 = .ok (.if_icmp .le 17, 3) := by decide +kernel
theorem dX3_farthestPlace_83 : decode cX3_farthestPlace 83 = .ok (.goto 10, 3) := by decide +kernel
theorem dX3_farthestPlace_86 : decode cX3_farthestPlace 86 = .ok (.iload 7, 2) := by decide +kernel
theorem dX3_farthestPlace_88 : decode cX3_farthestPlace 88 = .ok (.iload 4, 2) := by decide +kernel
theorem dX3_farthestPlace_90 : decode cX3_farthestPlace 90 = .ok (.if_icmp .ge 7, 3) := by decide +kernel
theorem dX3_farthestPlace_93 : decode cX3_farthestPlace 93 = .ok (.iload 7, 2) := by decide +kernel
theorem dX3_farthestPlace_95 : decode cX3_farthestPlace 95 = .ok (.istore 4, 2) := by decide +kernel
theorem dX3_farthestPlace_97 : decode cX3_farthestPlace 97 = .ok (.iinc 5 1, 3) := by decide +kernel
theorem dX3_farthestPlace_100 : decode cX3_farthestPlace 100 = .ok (.goto (-94), 3) := by decide +kernel
theorem dX3_farthestPlace_103 : decode cX3_farthestPlace 103 = .ok (.iload 4, 2) := by decide +kernel
theorem dX3_farthestPlace_105 : decode cX3_farthestPlace 105 = .ok (.ireturn, 1) := by decide +kernel
theorem dX4_init_0 : decode cX4_init 0 = .ok (.aload_n 0, 1) := by decide +kernel
theorem dX4_init_1 : decode cX4_init 1 = .ok (.invokespecial 3, 3) := by decide +kernel
theorem dX4_init_4 : decode cX4_init 4 = .ok (.aload_n 0, 1) := by decide +kernel
theorem dX4_init_5 : decode cX4_init 5 = .ok (.iconst 0, 1) := by decide +kernel
theorem dX4_init_6 : decode cX4_init 6 = .ok (.putfield 9, 3) := by decide +kernel
theorem dX4_init_9 : decode cX4_init 9 = .ok (.aload_n 0, 1) := by decide +kernel
theorem dX4_init_10 : decode cX4_init 10 = .ok (.iconst 0, 1) := by decide +kernel
theorem dX4_init_11 : decode cX4_init 11 = .ok (.putfield 15, 3) := by decide +kernel
theorem dX4_init_14 : decode cX4_init 14 = .ok (.aload_n 0, 1) := by decide +kernel
theorem dX4_init_15 : decode cX4_init 15 = .ok (.iconst (-1), 1) := by decide +kernel
theorem dX4_init_16 : decode cX4_init 16 = .ok (.putfield 18, 3) := by decide +kernel
theorem dX4_init_19 : decode cX4_init 19 = .ok (.aload_n 0, 1) := by decide +kernel
theorem dX4_init_20 : decode cX4_init 20 = .ok (.aload_n 1, 1) := by decide +kernel
theorem dX4_init_21 : decode cX4_init 21 = .ok (.putfield 21, 3) := by decide +kernel
theorem dX4_init_24 : decode cX4_init 24 = .ok (.aload_n 0, 1) := by decide +kernel
theorem dX4_init_25 : decode cX4_init 25 = .ok (.aload_n 2, 1) := by decide +kernel
theorem dX4_init_26 : decode cX4_init 26 = .ok (.putfield 25, 3) := by decide +kernel
theorem dX4_init_29 : decode cX4_init 29 = .ok (.return_, 1) := by decide +kernel
theorem dX4_parse_0 : decode cX4_parse 0 = .ok (.aload_n 0, 1) := by decide +kernel
theorem dX4_parse_1 : decode cX4_parse 1 = .ok (.getfield 21, 3) := by decide +kernel
theorem dX4_parse_4 : decode cX4_parse 4 = .ok (.invokevirtual 29, 3) := by decide +kernel
theorem dX4_parse_7 : decode cX4_parse 7 = .ok (.aload_n 0, 1) := by decide +kernel
theorem dX4_parse_8 : decode cX4_parse 8 = .ok (.getfield 25, 3) := by decide +kernel
theorem dX4_parse_11 : decode cX4_parse 11 = .ok (.invokevirtual 34, 3) := by decide +kernel
theorem dX4_parse_14 : decode cX4_parse 14 = .ok (.iconst 0, 1) := by decide +kernel
theorem dX4_parse_15 : decode cX4_parse 15 = .ok (.istore_n 1, 1) := by decide +kernel
theorem dX4_parse_16 : decode cX4_parse 16 = .ok (.iload_n 1, 1) := by decide +kernel
theorem dX4_parse_17 : decode cX4_parse 17 = .ok (.iconst 3, 1) := by decide +kernel
theorem dX4_parse_18 : decode cX4_parse 18 = .ok (.if_icmp .ge 38, 3) := by decide +kernel
theorem dX4_parse_21 : decode cX4_parse 21 = .ok (.aload_n 0, 1) := by decide +kernel
theorem dX4_parse_22 : decode cX4_parse 22 = .ok (.sipush 20261, 3) := by decide +kernel
theorem dX4_parse_25 : decode cX4_parse 25 = .ok (.iload_n 1, 1) := by decide +kernel
theorem dX4_parse_26 : decode cX4_parse 26 = .ok (.iadd, 1) := by decide +kernel
theorem dX4_parse_27 : decode cX4_parse 27 = .ok (.invokevirtual 39, 3) := by decide +kernel
theorem dX4_parse_30 : decode cX4_parse 30 = .ok (.aload_n 0, 1) := by decide +kernel
theorem dX4_parse_31 : decode cX4_parse 31 = .ok (.iconst 0, 1) := by decide +kernel
theorem dX4_parse_32 : decode cX4_parse 32 = .ok (.invokevirtual 43, 3) := by decide +kernel
theorem dX4_parse_35 : decode cX4_parse 35 = .ok (.aload_n 0, 1) := by decide +kernel
theorem dX4_parse_36 : decode cX4_parse 36 = .ok (.sipush 20059, 3) := by decide +kernel
theorem dX4_parse_39 : decode cX4_parse 39 = .ok (.invokevirtual 39, 3) := by decide +kernel
theorem dX4_parse_42 : decode cX4_parse 42 = .ok (.aload_n 0, 1) := by decide +kernel
theorem dX4_parse_43 : decode cX4_parse 43 = .ok (.getfield 25, 3) := by decide +kernel
theorem dX4_parse_46 : decode cX4_parse 46 = .ok (.iload_n 1, 1) := by decide +kernel
theorem dX4_parse_47 : decode cX4_parse 47 = .ok (.invokevirtual 46, 3) := by decide +kernel
theorem dX4_parse_50 : decode cX4_parse 50 = .ok (.iinc 1 1, 3) := by decide +kernel
theorem dX4_parse_53 : decode cX4_parse 53 = .ok (.goto (-37), 3) := by decide +kernel
theorem dX4_parse_56 : decode cX4_parse 56 = .ok (.aload_n 0, 1) := by decide +kernel
theorem dX4_parse_57 : decode cX4_parse 57 = .ok (.sipush 20259, 3) := by decide +kernel
theorem dX4_parse_60 : decode cX4_parse 60 = .ok (.invokevirtual 39, 3) := by decide +kernel
theorem dX4_parse_63 : decode cX4_parse 63 = .ok (.aload_n 0, 1) := by decide +kernel
theorem dX4_parse_64 : decode cX4_parse 64 = .ok (.getfield 21, 3) := by decide +kernel
theorem dX4_parse_67 : decode cX4_parse 67 = .ok (.iconst 0, 1) := by decide +kernel
theorem dX4_parse_68 : decode cX4_parse 68 = .ok (.putfield 49, 3) := by decide +kernel
theorem dX4_parse_71 : decode cX4_parse 71 = .ok (.aload_n 0, 1) := by decide +kernel
theorem dX4_parse_72 : decode cX4_parse 72 = .ok (.getfield 18, 3) := by decide +kernel
theorem dX4_parse_75 : decode cX4_parse 75 = .ok (.ireturn, 1) := by decide +kernel
theorem dX4_token_0 : decode cX4_token 0 = .ok (.aload_n 0, 1) := by decide +kernel
theorem dX4_token_1 : decode cX4_token 1 = .ok (.getfield 18, 3) := by decide +kernel
theorem dX4_token_4 : decode cX4_token 4 = .ok (.iconst (-1), 1) := by decide +kernel
theorem dX4_token_5 : decode cX4_token 5 = .ok (.if_icmp .ne 18, 3) := by decide +kernel
theorem dX4_token_8 : decode cX4_token 8 = .ok (.aload_n 0, 1) := by decide +kernel
theorem dX4_token_9 : decode cX4_token 9 = .ok (.getfield 21, 3) := by decide +kernel
theorem dX4_token_12 : decode cX4_token 12 = .ok (.getfield 52, 3) := by decide +kernel
theorem dX4_token_15 : decode cX4_token 15 = .ok (.aload_n 0, 1) := by decide +kernel
theorem dX4_token_16 : decode cX4_token 16 = .ok (.getfield 9, 3) := by decide +kernel
theorem dX4_token_19 : decode cX4_token 19 = .ok (.iaload, 1) := by decide +kernel
theorem dX4_token_20 : decode cX4_token 20 = .ok (.goto 6, 3) := by decide +kernel
theorem dX4_token_23 : decode cX4_token 23 = .ok (.sipush 20260, 3) := by decide +kernel
theorem dX4_token_26 : decode cX4_token 26 = .ok (.ireturn, 1) := by decide +kernel
theorem dX4_advance_0 : decode cX4_advance 0 = .ok (.aload_n 0, 1) := by decide +kernel
theorem dX4_advance_1 : decode cX4_advance 1 = .ok (.getfield 9, 3) := by decide +kernel
theorem dX4_advance_4 : decode cX4_advance 4 = .ok (.sipush 160, 3) := by decide +kernel
theorem dX4_advance_7 : decode cX4_advance 7 = .ok (.if_icmp .ge 13, 3) := by decide +kernel
theorem dX4_advance_10 : decode cX4_advance 10 = .ok (.aload_n 0, 1) := by decide +kernel
theorem dX4_advance_11 : decode cX4_advance 11 = .ok (.dup, 1) := by decide +kernel
theorem dX4_advance_12 : decode cX4_advance 12 = .ok (.getfield 9, 3) := by decide +kernel
theorem dX4_advance_15 : decode cX4_advance 15 = .ok (.iconst 1, 1) := by decide +kernel
theorem dX4_advance_16 : decode cX4_advance 16 = .ok (.iadd, 1) := by decide +kernel
theorem dX4_advance_17 : decode cX4_advance 17 = .ok (.putfield 9, 3) := by decide +kernel
theorem dX4_advance_20 : decode cX4_advance 20 = .ok (.return_, 1) := by decide +kernel
theorem dX4_fail_0 : decode cX4_fail 0 = .ok (.aload_n 0, 1) := by decide +kernel
theorem dX4_fail_1 : decode cX4_fail 1 = .ok (.getfield 18, 3) := by decide +kernel
theorem dX4_fail_4 : decode cX4_fail 4 = .ok (.iconst (-1), 1) := by decide +kernel
theorem dX4_fail_5 : decode cX4_fail 5 = .ok (.if_icmp .ne 19, 3) := by decide +kernel
theorem dX4_fail_8 : decode cX4_fail 8 = .ok (.aload_n 0, 1) := by decide +kernel
theorem dX4_fail_9 : decode cX4_fail 9 = .ok (.aload_n 0, 1) := by decide +kernel
theorem dX4_fail_10 : decode cX4_fail 10 = .ok (.getfield 21, 3) := by decide +kernel
theorem dX4_fail_13 : decode cX4_fail 13 = .ok (.getfield 56, 3) := by decide +kernel
theorem dX4_fail_16 : decode cX4_fail 16 = .ok (.aload_n 0, 1) := by decide +kernel
theorem dX4_fail_17 : decode cX4_fail 17 = .ok (.getfield 9, 3) := by decide +kernel
theorem dX4_fail_20 : decode cX4_fail 20 = .ok (.iaload, 1) := by decide +kernel
theorem dX4_fail_21 : decode cX4_fail 21 = .ok (.putfield 18, 3) := by decide +kernel
theorem dX4_fail_24 : decode cX4_fail 24 = .ok (.return_, 1) := by decide +kernel
theorem dX4_expect_0 : decode cX4_expect 0 = .ok (.aload_n 0, 1) := by decide +kernel
theorem dX4_expect_1 : decode cX4_expect 1 = .ok (.invokevirtual 59, 3) := by decide +kernel
theorem dX4_expect_4 : decode cX4_expect 4 = .ok (.iload_n 1, 1) := by decide +kernel
theorem dX4_expect_5 : decode cX4_expect 5 = .ok (.if_icmp .ne 10, 3) := by decide +kernel
theorem dX4_expect_8 : decode cX4_expect 8 = .ok (.aload_n 0, 1) := by decide +kernel
theorem dX4_expect_9 : decode cX4_expect 9 = .ok (.invokevirtual 63, 3) := by decide +kernel
theorem dX4_expect_12 : decode cX4_expect 12 = .ok (.goto 7, 3) := by decide +kernel
theorem dX4_expect_15 : decode cX4_expect 15 = .ok (.aload_n 0, 1) := by decide +kernel
theorem dX4_expect_16 : decode cX4_expect 16 = .ok (.invokevirtual 66, 3) := by decide +kernel
theorem dX4_expect_19 : decode cX4_expect 19 = .ok (.return_, 1) := by decide +kernel
theorem dX4_level_0 : decode cX4_level 0 = .ok (.iload_n 1, 1) := by decide +kernel
theorem dX4_level_1 : decode cX4_level 1 = .ok (.iconst 5, 1) := by decide +kernel
theorem dX4_level_2 : decode cX4_level 2 = .ok (.if_icmp .lt 10, 3) := by decide +kernel
theorem dX4_level_5 : decode cX4_level 5 = .ok (.aload_n 0, 1) := by decide +kernel
theorem dX4_level_6 : decode cX4_level 6 = .ok (.invokevirtual 69, 3) := by decide +kernel
theorem dX4_level_9 : decode cX4_level 9 = .ok (.goto 30, 3) := by decide +kernel
theorem dX4_level_12 : decode cX4_level 12 = .ok (.iload_n 1, 1) := by decide +kernel
theorem dX4_level_13 : decode cX4_level 13 = .ok (.iconst 2, 1) := by decide +kernel
theorem dX4_level_14 : decode cX4_level 14 = .ok (.if_icmp .ne 20, 3) := by decide +kernel
theorem dX4_level_17 : decode cX4_level 17 = .ok (.aload_n 0, 1) := by decide +kernel
theorem dX4_level_18 : decode cX4_level 18 = .ok (.invokevirtual 59, 3) := by decide +kernel
theorem dX4_level_21 : decode cX4_level 21 = .ok (.sipush 20258, 3) := by decide +kernel
theorem dX4_level_24 : decode cX4_level 24 = .ok (.if_icmp .ne 10, 3) := by decide +kernel
theorem dX4_level_27 : decode cX4_level 27 = .ok (.aload_n 0, 1) := by decide +kernel
theorem dX4_level_28 : decode cX4_level 28 = .ok (.invokevirtual 72, 3) := by decide +kernel
theorem dX4_level_31 : decode cX4_level 31 = .ok (.goto 8, 3) := by decide +kernel
theorem dX4_level_34 : decode cX4_level 34 = .ok (.aload_n 0, 1) := by decide +kernel
theorem dX4_level_35 : decode cX4_level 35 = .ok (.iload_n 1, 1) := by decide +kernel
theorem dX4_level_36 : decode cX4_level 36 = .ok (.invokevirtual 75, 3) := by decide +kernel
theorem dX4_level_39 : decode cX4_level 39 = .ok (.return_, 1) := by decide +kernel
theorem dX4_chain_0 : decode cX4_chain 0 = .ok (.aload_n 0, 1) := by decide +kernel
theorem dX4_chain_1 : decode cX4_chain 1 = .ok (.iload_n 1, 1) := by decide +kernel
theorem dX4_chain_2 : decode cX4_chain 2 = .ok (.iconst 1, 1) := by decide +kernel
theorem dX4_chain_3 : decode cX4_chain 3 = .ok (.iadd, 1) := by decide +kernel
theorem dX4_chain_4 : decode cX4_chain 4 = .ok (.invokevirtual 43, 3) := by decide +kernel
theorem dX4_chain_7 : decode cX4_chain 7 = .ok (.iload_n 1, 1) := by decide +kernel
theorem dX4_chain_8 : decode cX4_chain 8 = .ok (.iconst 2, 1) := by decide +kernel
theorem dX4_chain_9 : decode cX4_chain 9 = .ok (.if_icmp .ne 7, 3) := by decide +kernel
theorem dX4_chain_12 : decode cX4_chain 12 = .ok (.iconst 1, 1) := by decide +kernel
theorem dX4_chain_13 : decode cX4_chain 13 = .ok (.goto 6, 3) := by decide +kernel
theorem dX4_chain_16 : decode cX4_chain 16 = .ok (.sipush 160, 3) := by decide +kernel
theorem dX4_chain_19 : decode cX4_chain 19 = .ok (.istore_n 2, 1) := by decide +kernel
theorem dX4_chain_20 : decode cX4_chain 20 = .ok (.iconst 0, 1) := by decide +kernel
theorem dX4_chain_21 : decode cX4_chain 21 = .ok (.istore_n 3, 1) := by decide +kernel
theorem dX4_chain_22 : decode cX4_chain 22 = .ok (.iload_n 3, 1) := by decide +kernel
theorem dX4_chain_23 : decode cX4_chain 23 = .ok (.iload_n 2, 1) := by decide +kernel
theorem dX4_chain_24 : decode cX4_chain 24 = .ok (.if_icmp .ge 43, 3) := by decide +kernel
theorem dX4_chain_27 : decode cX4_chain 27 = .ok (.aload_n 0, 1) := by decide +kernel
theorem dX4_chain_28 : decode cX4_chain 28 = .ok (.iload_n 1, 1) := by decide +kernel
theorem dX4_chain_29 : decode cX4_chain 29 = .ok (.invokevirtual 78, 3) := by decide +kernel
theorem dX4_chain_32 : decode cX4_chain 32 = .ok (.ifCond .eq 35, 3) := by decide +kernel
theorem dX4_chain_35 : decode cX4_chain 35 = .ok (.aload_n 0, 1) := by decide +kernel
theorem dX4_chain_36 : decode cX4_chain 36 = .ok (.invokevirtual 59, 3) := by decide +kernel
theorem dX4_chain_39 : decode cX4_chain 39 = .ok (.istore 4, 2) := by decide +kernel
theorem dX4_chain_41 : decode cX4_chain 41 = .ok (.aload_n 0, 1) := by decide +kernel
theorem dX4_chain_42 : decode cX4_chain 42 = .ok (.invokevirtual 63, 3) := by decide +kernel
theorem dX4_chain_45 : decode cX4_chain 45 = .ok (.aload_n 0, 1) := by decide +kernel
theorem dX4_chain_46 : decode cX4_chain 46 = .ok (.iload_n 1, 1) := by decide +kernel
theorem dX4_chain_47 : decode cX4_chain 47 = .ok (.iconst 1, 1) := by decide +kernel
theorem dX4_chain_48 : decode cX4_chain 48 = .ok (.iadd, 1) := by decide +kernel
theorem dX4_chain_49 : decode cX4_chain 49 = .ok (.invokevirtual 43, 3) := by decide +kernel
theorem dX4_chain_52 : decode cX4_chain 52 = .ok (.aload_n 0, 1) := by decide +kernel
theorem dX4_chain_53 : decode cX4_chain 53 = .ok (.getfield 25, 3) := by decide +kernel
theorem dX4_chain_56 : decode cX4_chain 56 = .ok (.iload 4, 2) := by decide +kernel
theorem dX4_chain_58 : decode cX4_chain 58 = .ok (.invokevirtual 82, 3) := by decide +kernel
theorem dX4_chain_61 : decode cX4_chain 61 = .ok (.iinc 3 1, 3) := by decide +kernel
theorem dX4_chain_64 : decode cX4_chain 64 = .ok (.goto (-42), 3) := by decide +kernel
theorem dX4_chain_67 : decode cX4_chain 67 = .ok (.return_, 1) := by decide +kernel
theorem dX4_joins_0 : decode cX4_joins 0 = .ok (.aload_n 0, 1) := by decide +kernel
theorem dX4_joins_1 : decode cX4_joins 1 = .ok (.invokevirtual 59, 3) := by decide +kernel
theorem dX4_joins_4 : decode cX4_joins 4 = .ok (.istore_n 2, 1) := by decide +kernel
theorem dX4_joins_5 : decode cX4_joins 5 = .ok (.iload_n 1, 1) := by decide +kernel
theorem dX4_joins_6 : decode cX4_joins 6 = .ok (.tableswitch 113 0 4 #[34, 47, 60, 80, 100], 34) := by decide +kernel
theorem dX4_joins_40 : decode cX4_joins 40 = .ok (.iload_n 2, 1) := by decide +kernel
theorem dX4_joins_41 : decode cX4_joins 41 = .ok (.sipush 20256, 3) := by decide +kernel
theorem dX4_joins_44 : decode cX4_joins 44 = .ok (.if_icmp .ne 7, 3) := by decide +kernel
theorem dX4_joins_47 : decode cX4_joins 47 = .ok (.iconst 1, 1) := by decide +kernel
theorem dX4_joins_48 : decode cX4_joins 48 = .ok (.goto 4, 3) := by decide +kernel
theorem dX4_joins_51 : decode cX4_joins 51 = .ok (.iconst 0, 1) := by decide +kernel
theorem dX4_joins_52 : decode cX4_joins 52 = .ok (.ireturn, 1) := by decide +kernel
theorem dX4_joins_53 : decode cX4_joins 53 = .ok (.iload_n 2, 1) := by decide +kernel
theorem dX4_joins_54 : decode cX4_joins 54 = .ok (.sipush 20257, 3) := by decide +kernel
theorem dX4_joins_57 : decode cX4_joins 57 = .ok (.if_icmp .ne 7, 3) := by decide +kernel
theorem dX4_joins_60 : decode cX4_joins 60 = .ok (.iconst 1, 1) := by decide +kernel
theorem dX4_joins_61 : decode cX4_joins 61 = .ok (.goto 4, 3) := by decide +kernel
theorem dX4_joins_64 : decode cX4_joins 64 = .ok (.iconst 0, 1) := by decide +kernel
theorem dX4_joins_65 : decode cX4_joins 65 = .ok (.ireturn, 1) := by decide +kernel
theorem dX4_joins_66 : decode cX4_joins 66 = .ok (.iload_n 2, 1) := by decide +kernel
theorem dX4_joins_67 : decode cX4_joins 67 = .ok (.sipush 20060, 3) := by decide +kernel
theorem dX4_joins_70 : decode cX4_joins 70 = .ok (.if_icmp .eq 10, 3) := by decide +kernel
theorem dX4_joins_73 : decode cX4_joins 73 = .ok (.iload_n 2, 1) := by decide +kernel
theorem dX4_joins_74 : decode cX4_joins 74 = .ok (.sipush 20061, 3) := by decide +kernel
theorem dX4_joins_77 : decode cX4_joins 77 = .ok (.if_icmp .ne 7, 3) := by decide +kernel
theorem dX4_joins_80 : decode cX4_joins 80 = .ok (.iconst 1, 1) := by decide +kernel
theorem dX4_joins_81 : decode cX4_joins 81 = .ok (.goto 4, 3) := by decide +kernel
theorem dX4_joins_84 : decode cX4_joins 84 = .ok (.iconst 0, 1) := by decide +kernel
theorem dX4_joins_85 : decode cX4_joins 85 = .ok (.ireturn, 1) := by decide +kernel
theorem dX4_joins_86 : decode cX4_joins 86 = .ok (.iload_n 2, 1) := by decide +kernel
theorem dX4_joins_87 : decode cX4_joins 87 = .ok (.sipush 20043, 3) := by decide +kernel
theorem dX4_joins_90 : decode cX4_joins 90 = .ok (.if_icmp .eq 10, 3) := by decide +kernel
theorem dX4_joins_93 : decode cX4_joins 93 = .ok (.iload_n 2, 1) := by decide +kernel
theorem dX4_joins_94 : decode cX4_joins 94 = .ok (.sipush 20045, 3) := by decide +kernel
theorem dX4_joins_97 : decode cX4_joins 97 = .ok (.if_icmp .ne 7, 3) := by decide +kernel
theorem dX4_joins_100 : decode cX4_joins 100 = .ok (.iconst 1, 1) := by decide +kernel
theorem dX4_joins_101 : decode cX4_joins 101 = .ok (.goto 4, 3) := by decide +kernel
theorem dX4_joins_104 : decode cX4_joins 104 = .ok (.iconst 0, 1) := by decide +kernel
theorem dX4_joins_105 : decode cX4_joins 105 = .ok (.ireturn, 1) := by decide +kernel
theorem dX4_joins_106 : decode cX4_joins 106 = .ok (.iload_n 2, 1) := by decide +kernel
theorem dX4_joins_107 : decode cX4_joins 107 = .ok (.sipush 20042, 3) := by decide +kernel
theorem dX4_joins_110 : decode cX4_joins 110 = .ok (.if_icmp .ne 7, 3) := by decide +kernel
theorem dX4_joins_113 : decode cX4_joins 113 = .ok (.iconst 1, 1) := by decide +kernel
theorem dX4_joins_114 : decode cX4_joins 114 = .ok (.goto 4, 3) := by decide +kernel
theorem dX4_joins_117 : decode cX4_joins 117 = .ok (.iconst 0, 1) := by decide +kernel
theorem dX4_joins_118 : decode cX4_joins 118 = .ok (.ireturn, 1) := by decide +kernel
theorem dX4_joins_119 : decode cX4_joins 119 = .ok (.iconst 0, 1) := by decide +kernel
theorem dX4_joins_120 : decode cX4_joins 120 = .ok (.ireturn, 1) := by decide +kernel
theorem dX4_negation_0 : decode cX4_negation 0 = .ok (.aload_n 0, 1) := by decide +kernel
theorem dX4_negation_1 : decode cX4_negation 1 = .ok (.invokevirtual 85, 3) := by decide +kernel
theorem dX4_negation_4 : decode cX4_negation 4 = .ok (.ifCond .eq 36, 3) := by decide +kernel
theorem dX4_negation_7 : decode cX4_negation 7 = .ok (.aload_n 0, 1) := by decide +kernel
theorem dX4_negation_8 : decode cX4_negation 8 = .ok (.iconst 2, 1) := by decide +kernel
theorem dX4_negation_9 : decode cX4_negation 9 = .ok (.invokevirtual 43, 3) := by decide +kernel
theorem dX4_negation_12 : decode cX4_negation 12 = .ok (.aload_n 0, 1) := by decide +kernel
theorem dX4_negation_13 : decode cX4_negation 13 = .ok (.dup, 1) := by decide +kernel
theorem dX4_negation_14 : decode cX4_negation 14 = .ok (.getfield 15, 3) := by decide +kernel
theorem dX4_negation_17 : decode cX4_negation 17 = .ok (.iconst 1, 1) := by decide +kernel
theorem dX4_negation_18 : decode cX4_negation 18 = .ok (.isub, 1) := by decide +kernel
theorem dX4_negation_19 : decode cX4_negation 19 = .ok (.putfield 15, 3) := by decide +kernel
theorem dX4_negation_22 : decode cX4_negation 22 = .ok (.aload_n 0, 1) := by decide +kernel
theorem dX4_negation_23 : decode cX4_negation 23 = .ok (.getfield 25, 3) := by decide +kernel
theorem dX4_negation_26 : decode cX4_negation 26 = .ok (.iconst 0, 1) := by decide +kernel
theorem dX4_negation_27 : decode cX4_negation 27 = .ok (.invokevirtual 82, 3) := by decide +kernel
theorem dX4_negation_30 : decode cX4_negation 30 = .ok (.aload_n 0, 1) := by decide +kernel
theorem dX4_negation_31 : decode cX4_negation 31 = .ok (.getfield 25, 3) := by decide +kernel
theorem dX4_negation_34 : decode cX4_negation 34 = .ok (.sipush 20061, 3) := by decide +kernel
theorem dX4_negation_37 : decode cX4_negation 37 = .ok (.invokevirtual 82, 3) := by decide +kernel
theorem dX4_negation_40 : decode cX4_negation 40 = .ok (.return_, 1) := by decide +kernel
theorem dX4_one_0 : decode cX4_one 0 = .ok (.aload_n 0, 1) := by decide +kernel
theorem dX4_one_1 : decode cX4_one 1 = .ok (.invokevirtual 59, 3) := by decide +kernel
theorem dX4_one_4 : decode cX4_one 4 = .ok (.istore_n 1, 1) := by decide +kernel
theorem dX4_one_5 : decode cX4_one 5 = .ok (.iload_n 1, 1) := by decide +kernel
theorem dX4_one_6 : decode cX4_one 6 = .ok (.sipush 20000, 3) := by decide +kernel
theorem dX4_one_9 : decode cX4_one 9 = .ok (.if_icmp .ge 18, 3) := by decide +kernel
theorem dX4_one_12 : decode cX4_one 12 = .ok (.aload_n 0, 1) := by decide +kernel
theorem dX4_one_13 : decode cX4_one 13 = .ok (.getfield 25, 3) := by decide +kernel
theorem dX4_one_16 : decode cX4_one 16 = .ok (.iload_n 1, 1) := by decide +kernel
theorem dX4_one_17 : decode cX4_one 17 = .ok (.invokevirtual 82, 3) := by decide +kernel
theorem dX4_one_20 : decode cX4_one 20 = .ok (.aload_n 0, 1) := by decide +kernel
theorem dX4_one_21 : decode cX4_one 21 = .ok (.invokevirtual 63, 3) := by decide +kernel
theorem dX4_one_24 : decode cX4_one 24 = .ok (.goto 35, 3) := by decide +kernel
theorem dX4_one_27 : decode cX4_one 27 = .ok (.iload_n 1, 1) := by decide +kernel
theorem dX4_one_28 : decode cX4_one 28 = .ok (.sipush 20045, 3) := by decide +kernel
theorem dX4_one_31 : decode cX4_one 31 = .ok (.if_icmp .ne 10, 3) := by decide +kernel
theorem dX4_one_34 : decode cX4_one 34 = .ok (.aload_n 0, 1) := by decide +kernel
theorem dX4_one_35 : decode cX4_one 35 = .ok (.invokevirtual 89, 3) := by decide +kernel
theorem dX4_one_38 : decode cX4_one 38 = .ok (.goto 21, 3) := by decide +kernel
theorem dX4_one_41 : decode cX4_one 41 = .ok (.iload_n 1, 1) := by decide +kernel
theorem dX4_one_42 : decode cX4_one 42 = .ok (.sipush 20040, 3) := by decide +kernel
theorem dX4_one_45 : decode cX4_one 45 = .ok (.if_icmp .ne 10, 3) := by decide +kernel
theorem dX4_one_48 : decode cX4_one 48 = .ok (.aload_n 0, 1) := by decide +kernel
theorem dX4_one_49 : decode cX4_one 49 = .ok (.invokevirtual 92, 3) := by decide +kernel
theorem dX4_one_52 : decode cX4_one 52 = .ok (.goto 7, 3) := by decide +kernel
theorem dX4_one_55 : decode cX4_one 55 = .ok (.aload_n 0, 1) := by decide +kernel
theorem dX4_one_56 : decode cX4_one 56 = .ok (.invokevirtual 66, 3) := by decide +kernel
theorem dX4_one_59 : decode cX4_one 59 = .ok (.return_, 1) := by decide +kernel
theorem dX4_negative_0 : decode cX4_negative 0 = .ok (.aload_n 0, 1) := by decide +kernel
theorem dX4_negative_1 : decode cX4_negative 1 = .ok (.invokevirtual 85, 3) := by decide +kernel
theorem dX4_negative_4 : decode cX4_negative 4 = .ok (.ifCond .eq 36, 3) := by decide +kernel
theorem dX4_negative_7 : decode cX4_negative 7 = .ok (.aload_n 0, 1) := by decide +kernel
theorem dX4_negative_8 : decode cX4_negative 8 = .ok (.getfield 25, 3) := by decide +kernel
theorem dX4_negative_11 : decode cX4_negative 11 = .ok (.iconst 0, 1) := by decide +kernel
theorem dX4_negative_12 : decode cX4_negative 12 = .ok (.invokevirtual 82, 3) := by decide +kernel
theorem dX4_negative_15 : decode cX4_negative 15 = .ok (.aload_n 0, 1) := by decide +kernel
theorem dX4_negative_16 : decode cX4_negative 16 = .ok (.iconst 5, 1) := by decide +kernel
theorem dX4_negative_17 : decode cX4_negative 17 = .ok (.invokevirtual 43, 3) := by decide +kernel
theorem dX4_negative_20 : decode cX4_negative 20 = .ok (.aload_n 0, 1) := by decide +kernel
theorem dX4_negative_21 : decode cX4_negative 21 = .ok (.dup, 1) := by decide +kernel
theorem dX4_negative_22 : decode cX4_negative 22 = .ok (.getfield 15, 3) := by decide +kernel
theorem dX4_negative_25 : decode cX4_negative 25 = .ok (.iconst 1, 1) := by decide +kernel
theorem dX4_negative_26 : decode cX4_negative 26 = .ok (.isub, 1) := by decide +kernel
theorem dX4_negative_27 : decode cX4_negative 27 = .ok (.putfield 15, 3) := by decide +kernel
theorem dX4_negative_30 : decode cX4_negative 30 = .ok (.aload_n 0, 1) := by decide +kernel
theorem dX4_negative_31 : decode cX4_negative 31 = .ok (.getfield 25, 3) := by decide +kernel
theorem dX4_negative_34 : decode cX4_negative 34 = .ok (.sipush 20045, 3) := by decide +kernel
theorem dX4_negative_37 : decode cX4_negative 37 = .ok (.invokevirtual 82, 3) := by decide +kernel
theorem dX4_negative_40 : decode cX4_negative 40 = .ok (.return_, 1) := by decide +kernel
theorem dX4_inner_0 : decode cX4_inner 0 = .ok (.aload_n 0, 1) := by decide +kernel
theorem dX4_inner_1 : decode cX4_inner 1 = .ok (.invokevirtual 85, 3) := by decide +kernel
theorem dX4_inner_4 : decode cX4_inner 4 = .ok (.ifCond .eq 25, 3) := by decide +kernel
theorem dX4_inner_7 : decode cX4_inner 7 = .ok (.aload_n 0, 1) := by decide +kernel
theorem dX4_inner_8 : decode cX4_inner 8 = .ok (.iconst 0, 1) := by decide +kernel
theorem dX4_inner_9 : decode cX4_inner 9 = .ok (.invokevirtual 43, 3) := by decide +kernel
theorem dX4_inner_12 : decode cX4_inner 12 = .ok (.aload_n 0, 1) := by decide +kernel
theorem dX4_inner_13 : decode cX4_inner 13 = .ok (.sipush 20041, 3) := by decide +kernel
theorem dX4_inner_16 : decode cX4_inner 16 = .ok (.invokevirtual 39, 3) := by decide +kernel
theorem dX4_inner_19 : decode cX4_inner 19 = .ok (.aload_n 0, 1) := by decide +kernel
theorem dX4_inner_20 : decode cX4_inner 20 = .ok (.dup, 1) := by decide +kernel
theorem dX4_inner_21 : decode cX4_inner 21 = .ok (.getfield 15, 3) := by decide +kernel
theorem dX4_inner_24 : decode cX4_inner 24 = .ok (.iconst 1, 1) := by decide +kernel
theorem dX4_inner_25 : decode cX4_inner 25 = .ok (.isub, 1) := by decide +kernel
theorem dX4_inner_26 : decode cX4_inner 26 = .ok (.putfield 15, 3) := by decide +kernel
theorem dX4_inner_29 : decode cX4_inner 29 = .ok (.return_, 1) := by decide +kernel
theorem dX4_opens_0 : decode cX4_opens 0 = .ok (.aload_n 0, 1) := by decide +kernel
theorem dX4_opens_1 : decode cX4_opens 1 = .ok (.getfield 15, 3) := by decide +kernel
theorem dX4_opens_4 : decode cX4_opens 4 = .ok (.iconst 5, 1) := by decide +kernel
theorem dX4_opens_5 : decode cX4_opens 5 = .ok (.if_icmp .lt 9, 3) := by decide +kernel
theorem dX4_opens_8 : decode cX4_opens 8 = .ok (.aload_n 0, 1) := by decide +kernel
theorem dX4_opens_9 : decode cX4_opens 9 = .ok (.invokevirtual 66, 3) := by decide +kernel
theorem dX4_opens_12 : decode cX4_opens 12 = .ok (.iconst 0, 1) := by decide +kernel
theorem dX4_opens_13 : decode cX4_opens 13 = .ok (.ireturn, 1) := by decide +kernel
theorem dX4_opens_14 : decode cX4_opens 14 = .ok (.aload_n 0, 1) := by decide +kernel
theorem dX4_opens_15 : decode cX4_opens 15 = .ok (.dup, 1) := by decide +kernel
theorem dX4_opens_16 : decode cX4_opens 16 = .ok (.getfield 15, 3) := by decide +kernel
theorem dX4_opens_19 : decode cX4_opens 19 = .ok (.iconst 1, 1) := by decide +kernel
theorem dX4_opens_20 : decode cX4_opens 20 = .ok (.iadd, 1) := by decide +kernel
theorem dX4_opens_21 : decode cX4_opens 21 = .ok (.putfield 15, 3) := by decide +kernel
theorem dX4_opens_24 : decode cX4_opens 24 = .ok (.aload_n 0, 1) := by decide +kernel
theorem dX4_opens_25 : decode cX4_opens 25 = .ok (.invokevirtual 63, 3) := by decide +kernel
theorem dX4_opens_28 : decode cX4_opens 28 = .ok (.iconst 1, 1) := by decide +kernel
theorem dX4_opens_29 : decode cX4_opens 29 = .ok (.ireturn, 1) := by decide +kernel
theorem dX5_init_0 : decode cX5_init 0 = .ok (.aload_n 0, 1) := by decide +kernel
theorem dX5_init_1 : decode cX5_init 1 = .ok (.invokespecial 3, 3) := by decide +kernel
theorem dX5_init_4 : decode cX5_init 4 = .ok (.aload_n 0, 1) := by decide +kernel
theorem dX5_init_5 : decode cX5_init 5 = .ok (.sipush 320, 3) := by decide +kernel
theorem dX5_init_8 : decode cX5_init 8 = .ok (.newarray .int, 2) := by decide +kernel
theorem dX5_init_10 : decode cX5_init 10 = .ok (.putfield 11, 3) := by decide +kernel
theorem dX5_init_13 : decode cX5_init 13 = .ok (.aload_n 0, 1) := by decide +kernel
theorem dX5_init_14 : decode cX5_init 14 = .ok (.iconst 3, 1) := by decide +kernel
theorem dX5_init_15 : decode cX5_init 15 = .ok (.newarray .int, 2) := by decide +kernel
theorem dX5_init_17 : decode cX5_init 17 = .ok (.putfield 15, 3) := by decide +kernel
theorem dX5_init_20 : decode cX5_init 20 = .ok (.aload_n 0, 1) := by decide +kernel
theorem dX5_init_21 : decode cX5_init 21 = .ok (.iconst 0, 1) := by decide +kernel
theorem dX5_init_22 : decode cX5_init 22 = .ok (.putfield 18, 3) := by decide +kernel
theorem dX5_init_25 : decode cX5_init 25 = .ok (.return_, 1) := by decide +kernel
theorem dX5_clear_0 : decode cX5_clear 0 = .ok (.aload_n 0, 1) := by decide +kernel
theorem dX5_clear_1 : decode cX5_clear 1 = .ok (.iconst 0, 1) := by decide +kernel
theorem dX5_clear_2 : decode cX5_clear 2 = .ok (.putfield 18, 3) := by decide +kernel
theorem dX5_clear_5 : decode cX5_clear 5 = .ok (.return_, 1) := by decide +kernel
theorem dX5_add_0 : decode cX5_add 0 = .ok (.aload_n 0, 1) := by decide +kernel
theorem dX5_add_1 : decode cX5_add 1 = .ok (.getfield 18, 3) := by decide +kernel
theorem dX5_add_4 : decode cX5_add 4 = .ok (.sipush 320, 3) := by decide +kernel
theorem dX5_add_7 : decode cX5_add 7 = .ok (.if_icmp .ge 23, 3) := by decide +kernel
theorem dX5_add_10 : decode cX5_add 10 = .ok (.aload_n 0, 1) := by decide +kernel
theorem dX5_add_11 : decode cX5_add 11 = .ok (.getfield 11, 3) := by decide +kernel
theorem dX5_add_14 : decode cX5_add 14 = .ok (.aload_n 0, 1) := by decide +kernel
theorem dX5_add_15 : decode cX5_add 15 = .ok (.getfield 18, 3) := by decide +kernel
theorem dX5_add_18 : decode cX5_add 18 = .ok (.iload_n 1, 1) := by decide +kernel
theorem dX5_add_19 : decode cX5_add 19 = .ok (.iastore, 1) := by decide +kernel
theorem dX5_add_20 : decode cX5_add 20 = .ok (.aload_n 0, 1) := by decide +kernel
theorem dX5_add_21 : decode cX5_add 21 = .ok (.dup, 1) := by decide +kernel
theorem dX5_add_22 : decode cX5_add 22 = .ok (.getfield 18, 3) := by decide +kernel
theorem dX5_add_25 : decode cX5_add 25 = .ok (.iconst 1, 1) := by decide +kernel
theorem dX5_add_26 : decode cX5_add 26 = .ok (.iadd, 1) := by decide +kernel
theorem dX5_add_27 : decode cX5_add 27 = .ok (.putfield 18, 3) := by decide +kernel
theorem dX5_add_30 : decode cX5_add 30 = .ok (.return_, 1) := by decide +kernel
theorem dX5_endPart_0 : decode cX5_endPart 0 = .ok (.aload_n 0, 1) := by decide +kernel
theorem dX5_endPart_1 : decode cX5_endPart 1 = .ok (.getfield 15, 3) := by decide +kernel
theorem dX5_endPart_4 : decode cX5_endPart 4 = .ok (.iload_n 1, 1) := by decide +kernel
theorem dX5_endPart_5 : decode cX5_endPart 5 = .ok (.aload_n 0, 1) := by decide +kernel
theorem dX5_endPart_6 : decode cX5_endPart 6 = .ok (.getfield 18, 3) := by decide +kernel
theorem dX5_endPart_9 : decode cX5_endPart 9 = .ok (.iastore, 1) := by decide +kernel
theorem dX5_endPart_10 : decode cX5_endPart 10 = .ok (.return_, 1) := by decide +kernel
theorem dX5_value_0 : decode cX5_value 0 = .ok (.iconst 0, 1) := by decide +kernel
theorem dX5_value_1 : decode cX5_value 1 = .ok (.istore 4, 2) := by decide +kernel
theorem dX5_value_3 : decode cX5_value 3 = .ok (.iload_n 1, 1) := by decide +kernel
theorem dX5_value_4 : decode cX5_value 4 = .ok (.ifCond .ne 7, 3) := by decide +kernel
theorem dX5_value_7 : decode cX5_value 7 = .ok (.iconst 0, 1) := by decide +kernel
theorem dX5_value_8 : decode cX5_value 8 = .ok (.goto 11, 3) := by decide +kernel
theorem dX5_value_11 : decode cX5_value 11 = .ok (.aload_n 0, 1) := by decide +kernel
theorem dX5_value_12 : decode cX5_value 12 = .ok (.getfield 15, 3) := by decide +kernel
theorem dX5_value_15 : decode cX5_value 15 = .ok (.iload_n 1, 1) := by decide +kernel
theorem dX5_value_16 : decode cX5_value 16 = .ok (.iconst 1, 1) := by decide +kernel
theorem dX5_value_17 : decode cX5_value 17 = .ok (.isub, 1) := by decide +kernel
theorem dX5_value_18 : decode cX5_value 18 = .ok (.iaload, 1) := by decide +kernel
theorem dX5_value_19 : decode cX5_value 19 = .ok (.istore 5, 2) := by decide +kernel
theorem dX5_value_21 : decode cX5_value 21 = .ok (.iload 5, 2) := by decide +kernel
theorem dX5_value_23 : decode cX5_value 23 = .ok (.aload_n 0, 1) := by decide +kernel
theorem dX5_value_24 : decode cX5_value 24 = .ok (.getfield 15, 3) := by decide +kernel
theorem dX5_value_27 : decode cX5_value 27 = .ok (.iload_n 1, 1) := by decide +kernel
theorem dX5_value_28 : decode cX5_value 28 = .ok (.iaload, 1) := by decide +kernel
theorem dX5_value_29 : decode cX5_value 29 = .ok (.if_icmp .ge 79, 3) := by decide +kernel
theorem dX5_value_32 : decode cX5_value 32 = .ok (.aload_n 0, 1) := by decide +kernel
theorem dX5_value_33 : decode cX5_value 33 = .ok (.getfield 11, 3) := by decide +kernel
theorem dX5_value_36 : decode cX5_value 36 = .ok (.iload 5, 2) := by decide +kernel
theorem dX5_value_38 : decode cX5_value 38 = .ok (.iaload, 1) := by decide +kernel
theorem dX5_value_39 : decode cX5_value 39 = .ok (.istore 6, 2) := by decide +kernel
theorem dX5_value_41 : decode cX5_value 41 = .ok (.iload 6, 2) := by decide +kernel
theorem dX5_value_43 : decode cX5_value 43 = .ok (.sipush 20000, 3) := by decide +kernel
theorem dX5_value_46 : decode cX5_value 46 = .ok (.if_icmp .ge 26, 3) := by decide +kernel
theorem dX5_value_49 : decode cX5_value 49 = .ok (.iload 4, 2) := by decide +kernel
theorem dX5_value_51 : decode cX5_value 51 = .ok (.aload_n 3, 1) := by decide +kernel
theorem dX5_value_52 : decode cX5_value 52 = .ok (.arraylength, 1) := by decide +kernel
theorem dX5_value_53 : decode cX5_value 53 = .ok (.if_icmp .ge 49, 3) := by decide +kernel
theorem dX5_value_56 : decode cX5_value 56 = .ok (.aload_n 3, 1) := by decide +kernel
theorem dX5_value_57 : decode cX5_value 57 = .ok (.iload 4, 2) := by decide +kernel
theorem dX5_value_59 : decode cX5_value 59 = .ok (.iload 6, 2) := by decide +kernel
theorem dX5_value_61 : decode cX5_value 61 = .ok (.aload_n 2, 1) := by decide +kernel
theorem dX5_value_62 : decode cX5_value 62 = .ok (.invokestatic 24, 3) := by decide +kernel
theorem dX5_value_65 : decode cX5_value 65 = .ok (.iastore, 1) := by decide +kernel
theorem dX5_value_66 : decode cX5_value 66 = .ok (.iinc 4 1, 3) := by decide +kernel
theorem dX5_value_69 : decode cX5_value 69 = .ok (.goto 33, 3) := by decide +kernel
theorem dX5_value_72 : decode cX5_value 72 = .ok (.iload 4, 2) := by decide +kernel
theorem dX5_value_74 : decode cX5_value 74 = .ok (.iconst 2, 1) := by decide +kernel
theorem dX5_value_75 : decode cX5_value 75 = .ok (.if_icmp .lt 27, 3) := by decide +kernel
theorem dX5_value_78 : decode cX5_value 78 = .ok (.iinc 4 (-1), 3) := by decide +kernel
theorem dX5_value_81 : decode cX5_value 81 = .ok (.aload_n 3, 1) := by decide +kernel
theorem dX5_value_82 : decode cX5_value 82 = .ok (.iload 4, 2) := by decide +kernel
theorem dX5_value_84 : decode cX5_value 84 = .ok (.iconst 1, 1) := by decide +kernel
theorem dX5_value_85 : decode cX5_value 85 = .ok (.isub, 1) := by decide +kernel
theorem dX5_value_86 : decode cX5_value 86 = .ok (.iload 6, 2) := by decide +kernel
theorem dX5_value_88 : decode cX5_value 88 = .ok (.aload_n 3, 1) := by decide +kernel
theorem dX5_value_89 : decode cX5_value 89 = .ok (.iload 4, 2) := by decide +kernel
theorem dX5_value_91 : decode cX5_value 91 = .ok (.iconst 1, 1) := by decide +kernel
theorem dX5_value_92 : decode cX5_value 92 = .ok (.isub, 1) := by decide +kernel
theorem dX5_value_93 : decode cX5_value 93 = .ok (.iaload, 1) := by decide +kernel
theorem dX5_value_94 : decode cX5_value 94 = .ok (.aload_n 3, 1) := by decide +kernel
theorem dX5_value_95 : decode cX5_value 95 = .ok (.iload 4, 2) := by decide +kernel
theorem dX5_value_97 : decode cX5_value 97 = .ok (.iaload, 1) := by decide +kernel
theorem dX5_value_98 : decode cX5_value 98 = .ok (.invokestatic 28, 3) := by decide +kernel
theorem dX5_value_101 : decode cX5_value 101 = .ok (.iastore, 1) := by decide +kernel
theorem dX5_value_102 : decode cX5_value 102 = .ok (.iinc 5 1, 3) := by decide +kernel
theorem dX5_value_105 : decode cX5_value 105 = .ok (.goto (-84), 3) := by decide +kernel
theorem dX5_value_108 : decode cX5_value 108 = .ok (.iload 4, 2) := by decide +kernel
theorem dX5_value_110 : decode cX5_value 110 = .ok (.ifCond .le 12, 3) := by decide +kernel
theorem dX5_value_113 : decode cX5_value 113 = .ok (.aload_n 3, 1) := by decide +kernel
theorem dX5_value_114 : decode cX5_value 114 = .ok (.iload 4, 2) := by decide +kernel
theorem dX5_value_116 : decode cX5_value 116 = .ok (.iconst 1, 1) := by decide +kernel
theorem dX5_value_117 : decode cX5_value 117 = .ok (.isub, 1) := by decide +kernel
theorem dX5_value_118 : decode cX5_value 118 = .ok (.iaload, 1) := by decide +kernel
theorem dX5_value_119 : decode cX5_value 119 = .ok (.goto 4, 3) := by decide +kernel
theorem dX5_value_122 : decode cX5_value 122 = .ok (.iconst 0, 1) := by decide +kernel
theorem dX5_value_123 : decode cX5_value 123 = .ok (.ireturn, 1) := by decide +kernel
theorem dX5_meant_0 : decode cX5_meant 0 = .ok (.iload_n 0, 1) := by decide +kernel
theorem dX5_meant_1 : decode cX5_meant 1 = .ok (.sipush 10000, 3) := by decide +kernel
theorem dX5_meant_4 : decode cX5_meant 4 = .ok (.isub, 1) := by decide +kernel
theorem dX5_meant_5 : decode cX5_meant 5 = .ok (.istore_n 2, 1) := by decide +kernel
theorem dX5_meant_6 : decode cX5_meant 6 = .ok (.iload_n 2, 1) := by decide +kernel
theorem dX5_meant_7 : decode cX5_meant 7 = .ok (.ifCond .lt 15, 3) := by decide +kernel
theorem dX5_meant_10 : decode cX5_meant 10 = .ok (.iload_n 2, 1) := by decide +kernel
theorem dX5_meant_11 : decode cX5_meant 11 = .ok (.aload_n 1, 1) := by decide +kernel
theorem dX5_meant_12 : decode cX5_meant 12 = .ok (.arraylength, 1) := by decide +kernel
theorem dX5_meant_13 : decode cX5_meant 13 = .ok (.if_icmp .ge 9, 3) := by decide +kernel
theorem dX5_meant_16 : decode cX5_meant 16 = .ok (.aload_n 1, 1) := by decide +kernel
theorem dX5_meant_17 : decode cX5_meant 17 = .ok (.iload_n 2, 1) := by decide +kernel
theorem dX5_meant_18 : decode cX5_meant 18 = .ok (.iaload, 1) := by decide +kernel
theorem dX5_meant_19 : decode cX5_meant 19 = .ok (.goto 4, 3) := by decide +kernel
theorem dX5_meant_22 : decode cX5_meant 22 = .ok (.iload_n 0, 1) := by decide +kernel
theorem dX5_meant_23 : decode cX5_meant 23 = .ok (.ireturn, 1) := by decide +kernel
theorem dX5_joined_0 : decode cX5_joined 0 = .ok (.iload_n 0, 1) := by decide +kernel
theorem dX5_joined_1 : decode cX5_joined 1 = .ok (.lookupswitch 129 #[(20042, 75), (20043, 67), (20045, 71), (20060, 79), (20061, 90), (20256, 115), (20257, 101)], 67) := by decide +kernel
theorem dX5_joined_68 : decode cX5_joined 68 = .ok (.iload_n 1, 1) := by decide +kernel
theorem dX5_joined_69 : decode cX5_joined 69 = .ok (.iload_n 2, 1) := by decide +kernel
theorem dX5_joined_70 : decode cX5_joined 70 = .ok (.iadd, 1) := by decide +kernel
theorem dX5_joined_71 : decode cX5_joined 71 = .ok (.ireturn, 1) := by decide +kernel
theorem dX5_joined_72 : decode cX5_joined 72 = .ok (.iload_n 1, 1) := by decide +kernel
theorem dX5_joined_73 : decode cX5_joined 73 = .ok (.iload_n 2, 1) := by decide +kernel
theorem dX5_joined_74 : decode cX5_joined 74 = .ok (.isub, 1) := by decide +kernel
theorem dX5_joined_75 : decode cX5_joined 75 = .ok (.ireturn, 1) := by decide +kernel
theorem dX5_joined_76 : decode cX5_joined 76 = .ok (.iload_n 1, 1) := by decide +kernel
theorem dX5_joined_77 : decode cX5_joined 77 = .ok (.iload_n 2, 1) := by decide +kernel
theorem dX5_joined_78 : decode cX5_joined 78 = .ok (.imul, 1) := by decide +kernel
theorem dX5_joined_79 : decode cX5_joined 79 = .ok (.ireturn, 1) := by decide +kernel
theorem dX5_joined_80 : decode cX5_joined 80 = .ok (.iload_n 1, 1) := by decide +kernel
theorem dX5_joined_81 : decode cX5_joined 81 = .ok (.iload_n 2, 1) := by decide +kernel
theorem dX5_joined_82 : decode cX5_joined 82 = .ok (.if_icmp .ge 7, 3) := by decide +kernel
theorem dX5_joined_85 : decode cX5_joined 85 = .ok (.iconst 1, 1) := by decide +kernel
theorem dX5_joined_86 : decode cX5_joined 86 = .ok (.goto 4, 3) := by decide +kernel
theorem dX5_joined_89 : decode cX5_joined 89 = .ok (.iconst 0, 1) := by decide +kernel
theorem dX5_joined_90 : decode cX5_joined 90 = .ok (.ireturn, 1) := by decide +kernel
theorem dX5_joined_91 : decode cX5_joined 91 = .ok (.iload_n 1, 1) := by decide +kernel
theorem dX5_joined_92 : decode cX5_joined 92 = .ok (.iload_n 2, 1) := by decide +kernel
theorem dX5_joined_93 : decode cX5_joined 93 = .ok (.if_icmp .ne 7, 3) := by decide +kernel
theorem dX5_joined_96 : decode cX5_joined 96 = .ok (.iconst 1, 1) := by decide +kernel
theorem dX5_joined_97 : decode cX5_joined 97 = .ok (.goto 4, 3) := by decide +kernel
theorem dX5_joined_100 : decode cX5_joined 100 = .ok (.iconst 0, 1) := by decide +kernel
theorem dX5_joined_101 : decode cX5_joined 101 = .ok (.ireturn, 1) := by decide +kernel
theorem dX5_joined_102 : decode cX5_joined 102 = .ok (.iload_n 1, 1) := by decide +kernel
theorem dX5_joined_103 : decode cX5_joined 103 = .ok (.ifCond .eq 11, 3) := by decide +kernel
theorem dX5_joined_106 : decode cX5_joined 106 = .ok (.iload_n 2, 1) := by decide +kernel
theorem dX5_joined_107 : decode cX5_joined 107 = .ok (.ifCond .eq 7, 3) := by decide +kernel
theorem dX5_joined_110 : decode cX5_joined 110 = .ok (.iconst 1, 1) := by decide +kernel
theorem dX5_joined_111 : decode cX5_joined 111 = .ok (.goto 4, 3) := by decide +kernel
theorem dX5_joined_114 : decode cX5_joined 114 = .ok (.iconst 0, 1) := by decide +kernel
theorem dX5_joined_115 : decode cX5_joined 115 = .ok (.ireturn, 1) := by decide +kernel
theorem dX5_joined_116 : decode cX5_joined 116 = .ok (.iload_n 1, 1) := by decide +kernel
theorem dX5_joined_117 : decode cX5_joined 117 = .ok (.ifCond .ne 7, 3) := by decide +kernel
theorem dX5_joined_120 : decode cX5_joined 120 = .ok (.iload_n 2, 1) := by decide +kernel
theorem dX5_joined_121 : decode cX5_joined 121 = .ok (.ifCond .eq 7, 3) := by decide +kernel
theorem dX5_joined_124 : decode cX5_joined 124 = .ok (.iconst 1, 1) := by decide +kernel
theorem dX5_joined_125 : decode cX5_joined 125 = .ok (.goto 4, 3) := by decide +kernel
theorem dX5_joined_128 : decode cX5_joined 128 = .ok (.iconst 0, 1) := by decide +kernel
theorem dX5_joined_129 : decode cX5_joined 129 = .ok (.ireturn, 1) := by decide +kernel
theorem dX5_joined_130 : decode cX5_joined 130 = .ok (.iconst 0, 1) := by decide +kernel
theorem dX5_joined_131 : decode cX5_joined 131 = .ok (.ireturn, 1) := by decide +kernel
theorem dX6_init_0 : decode cX6_init 0 = .ok (.aload_n 0, 1) := by decide +kernel
theorem dX6_init_1 : decode cX6_init 1 = .ok (.invokespecial 3, 3) := by decide +kernel
theorem dX6_init_4 : decode cX6_init 4 = .ok (.aload_n 0, 1) := by decide +kernel
theorem dX6_init_5 : decode cX6_init 5 = .ok (.bipush 40, 2) := by decide +kernel
theorem dX6_init_7 : decode cX6_init 7 = .ok (.newarray .int, 2) := by decide +kernel
theorem dX6_init_9 : decode cX6_init 9 = .ok (.putfield 9, 3) := by decide +kernel
theorem dX6_init_12 : decode cX6_init 12 = .ok (.aload_n 0, 1) := by decide +kernel
theorem dX6_init_13 : decode cX6_init 13 = .ok (.iconst (-1), 1) := by decide +kernel
theorem dX6_init_14 : decode cX6_init 14 = .ok (.putfield 15, 3) := by decide +kernel
theorem dX6_init_17 : decode cX6_init 17 = .ok (.aload_n 0, 1) := by decide +kernel
theorem dX6_init_18 : decode cX6_init 18 = .ok (.iconst 0, 1) := by decide +kernel
theorem dX6_init_19 : decode cX6_init 19 = .ok (.putfield 19, 3) := by decide +kernel
theorem dX6_init_22 : decode cX6_init 22 = .ok (.return_, 1) := by decide +kernel
theorem dX6_isMissing_0 : decode cX6_isMissing 0 = .ok (.aload_n 0, 1) := by decide +kernel
theorem dX6_isMissing_1 : decode cX6_isMissing 1 = .ok (.getfield 15, 3) := by decide +kernel
theorem dX6_isMissing_4 : decode cX6_isMissing 4 = .ok (.iconst (-1), 1) := by decide +kernel
theorem dX6_isMissing_5 : decode cX6_isMissing 5 = .ok (.if_icmp .ne 7, 3) := by decide +kernel
theorem dX6_isMissing_8 : decode cX6_isMissing 8 = .ok (.iconst 1, 1) := by decide +kernel
theorem dX6_isMissing_9 : decode cX6_isMissing 9 = .ok (.goto 4, 3) := by decide +kernel
theorem dX6_isMissing_12 : decode cX6_isMissing 12 = .ok (.iconst 0, 1) := by decide +kernel
theorem dX6_isMissing_13 : decode cX6_isMissing 13 = .ok (.ireturn, 1) := by decide +kernel
theorem dX6_has_0 : decode cX6_has 0 = .ok (.iload_n 1, 1) := by decide +kernel
theorem dX6_has_1 : decode cX6_has 1 = .ok (.ifCond .lt 15, 3) := by decide +kernel
theorem dX6_has_4 : decode cX6_has 4 = .ok (.iload_n 1, 1) := by decide +kernel
theorem dX6_has_5 : decode cX6_has 5 = .ok (.aload_n 0, 1) := by decide +kernel
theorem dX6_has_6 : decode cX6_has 6 = .ok (.getfield 19, 3) := by decide +kernel
theorem dX6_has_9 : decode cX6_has 9 = .ok (.if_icmp .ge 7, 3) := by decide +kernel
theorem dX6_has_12 : decode cX6_has 12 = .ok (.iconst 1, 1) := by decide +kernel
theorem dX6_has_13 : decode cX6_has 13 = .ok (.goto 4, 3) := by decide +kernel
theorem dX6_has_16 : decode cX6_has 16 = .ok (.iconst 0, 1) := by decide +kernel
theorem dX6_has_17 : decode cX6_has 17 = .ok (.ireturn, 1) := by decide +kernel
theorem dX6_hasRun_0 : decode cX6_hasRun 0 = .ok (.iload_n 1, 1) := by decide +kernel
theorem dX6_hasRun_1 : decode cX6_hasRun 1 = .ok (.ifCond .lt 21, 3) := by decide +kernel
theorem dX6_hasRun_4 : decode cX6_hasRun 4 = .ok (.iload_n 2, 1) := by decide +kernel
theorem dX6_hasRun_5 : decode cX6_hasRun 5 = .ok (.ifCond .lt 17, 3) := by decide +kernel
theorem dX6_hasRun_8 : decode cX6_hasRun 8 = .ok (.iload_n 1, 1) := by decide +kernel
theorem dX6_hasRun_9 : decode cX6_hasRun 9 = .ok (.aload_n 0, 1) := by decide +kernel
theorem dX6_hasRun_10 : decode cX6_hasRun 10 = .ok (.getfield 19, 3) := by decide +kernel
theorem dX6_hasRun_13 : decode cX6_hasRun 13 = .ok (.iload_n 2, 1) := by decide +kernel
theorem dX6_hasRun_14 : decode cX6_hasRun 14 = .ok (.isub, 1) := by decide +kernel
theorem dX6_hasRun_15 : decode cX6_hasRun 15 = .ok (.if_icmp .gt 7, 3) := by decide +kernel
theorem dX6_hasRun_18 : decode cX6_hasRun 18 = .ok (.iconst 1, 1) := by decide +kernel
theorem dX6_hasRun_19 : decode cX6_hasRun 19 = .ok (.goto 4, 3) := by decide +kernel
theorem dX6_hasRun_22 : decode cX6_hasRun 22 = .ok (.iconst 0, 1) := by decide +kernel
theorem dX6_hasRun_23 : decode cX6_hasRun 23 = .ok (.ireturn, 1) := by decide +kernel
theorem dX6_become_0 : decode cX6_become 0 = .ok (.aload_n 0, 1) := by decide +kernel
theorem dX6_become_1 : decode cX6_become 1 = .ok (.iload_n 1, 1) := by decide +kernel
theorem dX6_become_2 : decode cX6_become 2 = .ok (.putfield 15, 3) := by decide +kernel
theorem dX6_become_5 : decode cX6_become 5 = .ok (.aload_n 0, 1) := by decide +kernel
theorem dX6_become_6 : decode cX6_become 6 = .ok (.iload_n 2, 1) := by decide +kernel
theorem dX6_become_7 : decode cX6_become 7 = .ok (.putfield 19, 3) := by decide +kernel
theorem dX6_become_10 : decode cX6_become 10 = .ok (.aload_n 0, 1) := by decide +kernel
theorem dX6_become_11 : decode cX6_become 11 = .ok (.getfield 9, 3) := by decide +kernel
theorem dX6_become_14 : decode cX6_become 14 = .ok (.iconst 0, 1) := by decide +kernel
theorem dX6_become_15 : decode cX6_become 15 = .ok (.invokestatic 22, 3) := by decide +kernel
theorem dX6_become_18 : decode cX6_become 18 = .ok (.return_, 1) := by decide +kernel
theorem dX6_put_0 : decode cX6_put 0 = .ok (.aload_n 0, 1) := by decide +kernel
theorem dX6_put_1 : decode cX6_put 1 = .ok (.getfield 15, 3) := by decide +kernel
theorem dX6_put_4 : decode cX6_put 4 = .ok (.lookupswitch 50 #[(0, 28), (1, 39)], 28) := by decide +kernel
theorem dX6_put_32 : decode cX6_put 32 = .ok (.aload_n 0, 1) := by decide +kernel
theorem dX6_put_33 : decode cX6_put 33 = .ok (.getfield 9, 3) := by decide +kernel
theorem dX6_put_36 : decode cX6_put 36 = .ok (.iload_n 1, 1) := by decide +kernel
theorem dX6_put_37 : decode cX6_put 37 = .ok (.iload_n 2, 1) := by decide +kernel
theorem dX6_put_38 : decode cX6_put 38 = .ok (.i2b, 1) := by decide +kernel
theorem dX6_put_39 : decode cX6_put 39 = .ok (.iastore, 1) := by decide +kernel
theorem dX6_put_40 : decode cX6_put 40 = .ok (.goto 21, 3) := by decide +kernel
theorem dX6_put_43 : decode cX6_put 43 = .ok (.aload_n 0, 1) := by decide +kernel
theorem dX6_put_44 : decode cX6_put 44 = .ok (.getfield 9, 3) := by decide +kernel
theorem dX6_put_47 : decode cX6_put 47 = .ok (.iload_n 1, 1) := by decide +kernel
theorem dX6_put_48 : decode cX6_put 48 = .ok (.iload_n 2, 1) := by decide +kernel
theorem dX6_put_49 : decode cX6_put 49 = .ok (.i2s, 1) := by decide +kernel
theorem dX6_put_50 : decode cX6_put 50 = .ok (.iastore, 1) := by decide +kernel
theorem dX6_put_51 : decode cX6_put 51 = .ok (.goto 10, 3) := by decide +kernel
theorem dX6_put_54 : decode cX6_put 54 = .ok (.aload_n 0, 1) := by decide +kernel
theorem dX6_put_55 : decode cX6_put 55 = .ok (.getfield 9, 3) := by decide +kernel
theorem dX6_put_58 : decode cX6_put 58 = .ok (.iload_n 1, 1) := by decide +kernel
theorem dX6_put_59 : decode cX6_put 59 = .ok (.iload_n 2, 1) := by decide +kernel
theorem dX6_put_60 : decode cX6_put 60 = .ok (.iastore, 1) := by decide +kernel
theorem dX6_put_61 : decode cX6_put 61 = .ok (.return_, 1) := by decide +kernel
theorem dX7_init_0 : decode cX7_init 0 = .ok (.aload_n 0, 1) := by decide +kernel
theorem dX7_init_1 : decode cX7_init 1 = .ok (.invokespecial 3, 3) := by decide +kernel
theorem dX7_init_4 : decode cX7_init 4 = .ok (.return_, 1) := by decide +kernel
theorem dX7_become_0 : decode cX7_become 0 = .ok (.aload_n 0, 1) := by decide +kernel
theorem dX7_become_1 : decode cX7_become 1 = .ok (.iload_n 1, 1) := by decide +kernel
theorem dX7_become_2 : decode cX7_become 2 = .ok (.putfield 9, 3) := by decide +kernel
theorem dX7_become_5 : decode cX7_become 5 = .ok (.aload_n 0, 1) := by decide +kernel
theorem dX7_become_6 : decode cX7_become 6 = .ok (.iload_n 2, 1) := by decide +kernel
theorem dX7_become_7 : decode cX7_become 7 = .ok (.putfield 15, 3) := by decide +kernel
theorem dX7_become_10 : decode cX7_become 10 = .ok (.aload_n 0, 1) := by decide +kernel
theorem dX7_become_11 : decode cX7_become 11 = .ok (.iload_n 3, 1) := by decide +kernel
theorem dX7_become_12 : decode cX7_become 12 = .ok (.putfield 18, 3) := by decide +kernel
theorem dX7_become_15 : decode cX7_become 15 = .ok (.aload_n 0, 1) := by decide +kernel
theorem dX7_become_16 : decode cX7_become 16 = .ok (.iload 4, 2) := by decide +kernel
theorem dX7_become_18 : decode cX7_become 18 = .ok (.putfield 21, 3) := by decide +kernel
theorem dX7_become_21 : decode cX7_become 21 = .ok (.aload_n 0, 1) := by decide +kernel
theorem dX7_become_22 : decode cX7_become 22 = .ok (.iload_n 1, 1) := by decide +kernel
theorem dX7_become_23 : decode cX7_become 23 = .ok (.iload 4, 2) := by decide +kernel
theorem dX7_become_25 : decode cX7_become 25 = .ok (.invokestatic 24, 3) := by decide +kernel
theorem dX7_become_28 : decode cX7_become 28 = .ok (.putfield 28, 3) := by decide +kernel
theorem dX7_become_31 : decode cX7_become 31 = .ok (.aload_n 0, 1) := by decide +kernel
theorem dX7_become_32 : decode cX7_become 32 = .ok (.iload_n 1, 1) := by decide +kernel
theorem dX7_become_33 : decode cX7_become 33 = .ok (.iload 4, 2) := by decide +kernel
theorem dX7_become_35 : decode cX7_become 35 = .ok (.invokestatic 31, 3) := by decide +kernel
theorem dX7_become_38 : decode cX7_become 38 = .ok (.putfield 34, 3) := by decide +kernel
theorem dX7_become_41 : decode cX7_become 41 = .ok (.aload_n 0, 1) := by decide +kernel
theorem dX7_become_42 : decode cX7_become 42 = .ok (.iload_n 1, 1) := by decide +kernel
theorem dX7_become_43 : decode cX7_become 43 = .ok (.invokestatic 37, 3) := by decide +kernel
theorem dX7_become_46 : decode cX7_become 46 = .ok (.putfield 41, 3) := by decide +kernel
theorem dX7_become_49 : decode cX7_become 49 = .ok (.aload_n 0, 1) := by decide +kernel
theorem dX7_become_50 : decode cX7_become 50 = .ok (.iload_n 1, 1) := by decide +kernel
theorem dX7_become_51 : decode cX7_become 51 = .ok (.invokestatic 44, 3) := by decide +kernel
theorem dX7_become_54 : decode cX7_become 54 = .ok (.putfield 47, 3) := by decide +kernel
theorem dX7_become_57 : decode cX7_become 57 = .ok (.return_, 1) := by decide +kernel
theorem dX7_liesIn_0 : decode cX7_liesIn 0 = .ok (.iload_n 1, 1) := by decide +kernel
theorem dX7_liesIn_1 : decode cX7_liesIn 1 = .ok (.aload_n 0, 1) := by decide +kernel
theorem dX7_liesIn_2 : decode cX7_liesIn 2 = .ok (.getfield 15, 3) := by decide +kernel
theorem dX7_liesIn_5 : decode cX7_liesIn 5 = .ok (.if_icmp .le 20, 3) := by decide +kernel
theorem dX7_liesIn_8 : decode cX7_liesIn 8 = .ok (.iload_n 1, 1) := by decide +kernel
theorem dX7_liesIn_9 : decode cX7_liesIn 9 = .ok (.aload_n 0, 1) := by decide +kernel
theorem dX7_liesIn_10 : decode cX7_liesIn 10 = .ok (.getfield 15, 3) := by decide +kernel
theorem dX7_liesIn_13 : decode cX7_liesIn 13 = .ok (.aload_n 0, 1) := by decide +kernel
theorem dX7_liesIn_14 : decode cX7_liesIn 14 = .ok (.getfield 34, 3) := by decide +kernel
theorem dX7_liesIn_17 : decode cX7_liesIn 17 = .ok (.iadd, 1) := by decide +kernel
theorem dX7_liesIn_18 : decode cX7_liesIn 18 = .ok (.if_icmp .gt 7, 3) := by decide +kernel
theorem dX7_liesIn_21 : decode cX7_liesIn 21 = .ok (.iconst 1, 1) := by decide +kernel
theorem dX7_liesIn_22 : decode cX7_liesIn 22 = .ok (.goto 4, 3) := by decide +kernel
theorem dX7_liesIn_25 : decode cX7_liesIn 25 = .ok (.iconst 0, 1) := by decide +kernel
theorem dX7_liesIn_26 : decode cX7_liesIn 26 = .ok (.ireturn, 1) := by decide +kernel
theorem dX7_isUnder_0 : decode cX7_isUnder 0 = .ok (.aload_n 0, 1) := by decide +kernel
theorem dX7_isUnder_1 : decode cX7_isUnder 1 = .ok (.getfield 9, 3) := by decide +kernel
theorem dX7_isUnder_4 : decode cX7_isUnder 4 = .ok (.istore_n 2, 1) := by decide +kernel
theorem dX7_isUnder_5 : decode cX7_isUnder 5 = .ok (.iconst 0, 1) := by decide +kernel
theorem dX7_isUnder_6 : decode cX7_isUnder 6 = .ok (.istore_n 3, 1) := by decide +kernel
theorem dX7_isUnder_7 : decode cX7_isUnder 7 = .ok (.iload_n 3, 1) := by decide +kernel
theorem dX7_isUnder_8 : decode cX7_isUnder 8 = .ok (.bipush 6, 2) := by decide +kernel
theorem dX7_isUnder_10 : decode cX7_isUnder 10 = .ok (.if_icmp .ge 27, 3) := by decide +kernel
theorem dX7_isUnder_13 : decode cX7_isUnder 13 = .ok (.iload_n 2, 1) := by decide +kernel
theorem dX7_isUnder_14 : decode cX7_isUnder 14 = .ok (.iconst (-1), 1) := by decide +kernel
theorem dX7_isUnder_15 : decode cX7_isUnder 15 = .ok (.if_icmp .eq 22, 3) := by decide +kernel
theorem dX7_isUnder_18 : decode cX7_isUnder 18 = .ok (.iload_n 2, 1) := by decide +kernel
theorem dX7_isUnder_19 : decode cX7_isUnder 19 = .ok (.iload_n 1, 1) := by decide +kernel
theorem dX7_isUnder_20 : decode cX7_isUnder 20 = .ok (.if_icmp .ne 5, 3) := by decide +kernel
theorem dX7_isUnder_23 : decode cX7_isUnder 23 = .ok (.iconst 1, 1) := by decide +kernel
theorem dX7_isUnder_24 : decode cX7_isUnder 24 = .ok (.ireturn, 1) := by decide +kernel
theorem dX7_isUnder_25 : decode cX7_isUnder 25 = .ok (.getstatic 50, 3) := by decide +kernel
theorem dX7_isUnder_28 : decode cX7_isUnder 28 = .ok (.iload_n 2, 1) := by decide +kernel
theorem dX7_isUnder_29 : decode cX7_isUnder 29 = .ok (.iaload, 1) := by decide +kernel
theorem dX7_isUnder_30 : decode cX7_isUnder 30 = .ok (.istore_n 2, 1) := by decide +kernel
theorem dX7_isUnder_31 : decode cX7_isUnder 31 = .ok (.iinc 3 1, 3) := by decide +kernel
theorem dX7_isUnder_34 : decode cX7_isUnder 34 = .ok (.goto (-27), 3) := by decide +kernel
theorem dX7_isUnder_37 : decode cX7_isUnder 37 = .ok (.iconst 0, 1) := by decide +kernel
theorem dX7_isUnder_38 : decode cX7_isUnder 38 = .ok (.ireturn, 1) := by decide +kernel
theorem dX7_highOf_0 : decode cX7_highOf 0 = .ok (.iload_n 0, 1) := by decide +kernel
theorem dX7_highOf_1 : decode cX7_highOf 1 = .ok (.tableswitch 49 2 5 #[31, 33, 37, 39], 31) := by decide +kernel
theorem dX7_highOf_32 : decode cX7_highOf 32 = .ok (.iconst 1, 1) := by decide +kernel
theorem dX7_highOf_33 : decode cX7_highOf 33 = .ok (.ireturn, 1) := by decide +kernel
theorem dX7_highOf_34 : decode cX7_highOf 34 = .ok (.iload_n 1, 1) := by decide +kernel
theorem dX7_highOf_35 : decode cX7_highOf 35 = .ok (.iconst 3, 1) := by decide +kernel
theorem dX7_highOf_36 : decode cX7_highOf 36 = .ok (.idiv, 1) := by decide +kernel
theorem dX7_highOf_37 : decode cX7_highOf 37 = .ok (.ireturn, 1) := by decide +kernel
theorem dX7_highOf_38 : decode cX7_highOf 38 = .ok (.iconst 4, 1) := by decide +kernel
theorem dX7_highOf_39 : decode cX7_highOf 39 = .ok (.ireturn, 1) := by decide +kernel
theorem dX7_highOf_40 : decode cX7_highOf 40 = .ok (.iconst 0, 1) := by decide +kernel
theorem dX7_highOf_41 : decode cX7_highOf 41 = .ok (.iload_n 1, 1) := by decide +kernel
theorem dX7_highOf_42 : decode cX7_highOf 42 = .ok (.iconst 3, 1) := by decide +kernel
theorem dX7_highOf_43 : decode cX7_highOf 43 = .ok (.idiv, 1) := by decide +kernel
theorem dX7_highOf_44 : decode cX7_highOf 44 = .ok (.iconst 2, 1) := by decide +kernel
theorem dX7_highOf_45 : decode cX7_highOf 45 = .ok (.isub, 1) := by decide +kernel
theorem dX7_highOf_46 : decode cX7_highOf 46 = .ok (.invokestatic 54, 3) := by decide +kernel
theorem dX7_highOf_49 : decode cX7_highOf 49 = .ok (.ireturn, 1) := by decide +kernel
theorem dX7_highOf_50 : decode cX7_highOf 50 = .ok (.iconst 0, 1) := by decide +kernel
theorem dX7_highOf_51 : decode cX7_highOf 51 = .ok (.ireturn, 1) := by decide +kernel
theorem dX7_lastsOf_0 : decode cX7_lastsOf 0 = .ok (.iload_n 0, 1) := by decide +kernel
theorem dX7_lastsOf_1 : decode cX7_lastsOf 1 = .ok (.tableswitch 55 1 5 #[35, 40, 43, 50, 43], 35) := by decide +kernel
theorem dX7_lastsOf_36 : decode cX7_lastsOf 36 = .ok (.bipush 12, 2) := by decide +kernel
theorem dX7_lastsOf_38 : decode cX7_lastsOf 38 = .ok (.iload_n 1, 1) := by decide +kernel
theorem dX7_lastsOf_39 : decode cX7_lastsOf 39 = .ok (.iadd, 1) := by decide +kernel
theorem dX7_lastsOf_40 : decode cX7_lastsOf 40 = .ok (.ireturn, 1) := by decide +kernel
theorem dX7_lastsOf_41 : decode cX7_lastsOf 41 = .ok (.bipush 24, 2) := by decide +kernel
theorem dX7_lastsOf_43 : decode cX7_lastsOf 43 = .ok (.ireturn, 1) := by decide +kernel
theorem dX7_lastsOf_44 : decode cX7_lastsOf 44 = .ok (.bipush 12, 2) := by decide +kernel
theorem dX7_lastsOf_46 : decode cX7_lastsOf 46 = .ok (.iload_n 1, 1) := by decide +kernel
theorem dX7_lastsOf_47 : decode cX7_lastsOf 47 = .ok (.iadd, 1) := by decide +kernel
theorem dX7_lastsOf_48 : decode cX7_lastsOf 48 = .ok (.iconst 2, 1) := by decide +kernel
theorem dX7_lastsOf_49 : decode cX7_lastsOf 49 = .ok (.idiv, 1) := by decide +kernel
theorem dX7_lastsOf_50 : decode cX7_lastsOf 50 = .ok (.ireturn, 1) := by decide +kernel
theorem dX7_lastsOf_51 : decode cX7_lastsOf 51 = .ok (.bipush 24, 2) := by decide +kernel
theorem dX7_lastsOf_53 : decode cX7_lastsOf 53 = .ok (.iload_n 1, 1) := by decide +kernel
theorem dX7_lastsOf_54 : decode cX7_lastsOf 54 = .ok (.iadd, 1) := by decide +kernel
theorem dX7_lastsOf_55 : decode cX7_lastsOf 55 = .ok (.ireturn, 1) := by decide +kernel
theorem dX7_lastsOf_56 : decode cX7_lastsOf 56 = .ok (.bipush 12, 2) := by decide +kernel
theorem dX7_lastsOf_58 : decode cX7_lastsOf 58 = .ok (.ireturn, 1) := by decide +kernel
theorem dX7_asksOf_0 : decode cX7_asksOf 0 = .ok (.iload_n 0, 1) := by decide +kernel
theorem dX7_asksOf_1 : decode cX7_asksOf 1 = .ok (.lookupswitch 31 #[(2, 27), (4, 29)], 27) := by decide +kernel
theorem dX7_asksOf_28 : decode cX7_asksOf 28 = .ok (.iconst 1, 1) := by decide +kernel
theorem dX7_asksOf_29 : decode cX7_asksOf 29 = .ok (.ireturn, 1) := by decide +kernel
theorem dX7_asksOf_30 : decode cX7_asksOf 30 = .ok (.iconst 2, 1) := by decide +kernel
theorem dX7_asksOf_31 : decode cX7_asksOf 31 = .ok (.ireturn, 1) := by decide +kernel
theorem dX7_asksOf_32 : decode cX7_asksOf 32 = .ok (.iconst 0, 1) := by decide +kernel
theorem dX7_asksOf_33 : decode cX7_asksOf 33 = .ok (.ireturn, 1) := by decide +kernel
theorem dX7_tellsOf_0 : decode cX7_tellsOf 0 = .ok (.iload_n 0, 1) := by decide +kernel
theorem dX7_tellsOf_1 : decode cX7_tellsOf 1 = .ok (.tableswitch 39 1 5 #[35, 39, 37, 39, 37], 35) := by decide +kernel
theorem dX7_tellsOf_36 : decode cX7_tellsOf 36 = .ok (.iconst 1, 1) := by decide +kernel
theorem dX7_tellsOf_37 : decode cX7_tellsOf 37 = .ok (.ireturn, 1) := by decide +kernel
theorem dX7_tellsOf_38 : decode cX7_tellsOf 38 = .ok (.iconst 2, 1) := by decide +kernel
theorem dX7_tellsOf_39 : decode cX7_tellsOf 39 = .ok (.ireturn, 1) := by decide +kernel
theorem dX7_tellsOf_40 : decode cX7_tellsOf 40 = .ok (.iconst 0, 1) := by decide +kernel
theorem dX7_tellsOf_41 : decode cX7_tellsOf 41 = .ok (.ireturn, 1) := by decide +kernel
theorem dX8_init_0 : decode cX8_init 0 = .ok (.aload_n 0, 1) := by decide +kernel
theorem dX8_init_1 : decode cX8_init 1 = .ok (.invokespecial 3, 3) := by decide +kernel
theorem dX8_init_4 : decode cX8_init 4 = .ok (.aload_n 0, 1) := by decide +kernel
theorem dX8_init_5 : decode cX8_init 5 = .ok (.iconst 5, 1) := by decide +kernel
theorem dX8_init_6 : decode cX8_init 6 = .ok (.anewarray 9, 3) := by decide +kernel
theorem dX8_init_9 : decode cX8_init 9 = .ok (.putfield 11, 3) := by decide +kernel
theorem dX8_init_12 : decode cX8_init 12 = .ok (.aload_n 0, 1) := by decide +kernel
theorem dX8_init_13 : decode cX8_init 13 = .ok (.bipush 10, 2) := by decide +kernel
theorem dX8_init_15 : decode cX8_init 15 = .ok (.anewarray 17, 3) := by decide +kernel
theorem dX8_init_18 : decode cX8_init 18 = .ok (.putfield 19, 3) := by decide +kernel
theorem dX8_init_21 : decode cX8_init 21 = .ok (.aload_n 0, 1) := by decide +kernel
theorem dX8_init_22 : decode cX8_init 22 = .ok (.bipush 6, 2) := by decide +kernel
theorem dX8_init_24 : decode cX8_init 24 = .ok (.anewarray 23, 3) := by decide +kernel
theorem dX8_init_27 : decode cX8_init 27 = .ok (.putfield 25, 3) := by decide +kernel
theorem dX8_init_30 : decode cX8_init 30 = .ok (.aload_n 0, 1) := by decide +kernel
theorem dX8_init_31 : decode cX8_init 31 = .ok (.iconst 0, 1) := by decide +kernel
theorem dX8_init_32 : decode cX8_init 32 = .ok (.putfield 29, 3) := by decide +kernel
theorem dX8_init_35 : decode cX8_init 35 = .ok (.aload_n 0, 1) := by decide +kernel
theorem dX8_init_36 : decode cX8_init 36 = .ok (.iconst 0, 1) := by decide +kernel
theorem dX8_init_37 : decode cX8_init 37 = .ok (.putfield 33, 3) := by decide +kernel
theorem dX8_init_40 : decode cX8_init 40 = .ok (.aload_n 0, 1) := by decide +kernel
theorem dX8_init_41 : decode cX8_init 41 = .ok (.iconst 0, 1) := by decide +kernel
theorem dX8_init_42 : decode cX8_init 42 = .ok (.putfield 36, 3) := by decide +kernel
theorem dX8_init_45 : decode cX8_init 45 = .ok (.aload_n 0, 1) := by decide +kernel
theorem dX8_init_46 : decode cX8_init 46 = .ok (.iconst 0, 1) := by decide +kernel
theorem dX8_init_47 : decode cX8_init 47 = .ok (.putfield 39, 3) := by decide +kernel
theorem dX8_init_50 : decode cX8_init 50 = .ok (.iconst 0, 1) := by decide +kernel
theorem dX8_init_51 : decode cX8_init 51 = .ok (.istore_n 1, 1) := by decide +kernel
theorem dX8_init_52 : decode cX8_init 52 = .ok (.iload_n 1, 1) := by decide +kernel
theorem dX8_init_53 : decode cX8_init 53 = .ok (.iconst 5, 1) := by decide +kernel
theorem dX8_init_54 : decode cX8_init 54 = .ok (.if_icmp .ge 22, 3) := by decide +kernel
theorem dX8_init_57 : decode cX8_init 57 = .ok (.aload_n 0, 1) := by decide +kernel
theorem dX8_init_58 : decode cX8_init 58 = .ok (.getfield 11, 3) := by decide +kernel
theorem dX8_init_61 : decode cX8_init 61 = .ok (.iload_n 1, 1) := by decide +kernel
theorem dX8_init_62 : decode cX8_init 62 = .ok (.new 9, 3) := by decide +kernel
theorem dX8_init_65 : decode cX8_init 65 = .ok (.dup, 1) := by decide +kernel
theorem dX8_init_66 : decode cX8_init 66 = .ok (.invokespecial 42, 3) := by decide +kernel
theorem dX8_init_69 : decode cX8_init 69 = .ok (.aastore, 1) := by decide +kernel
theorem dX8_init_70 : decode cX8_init 70 = .ok (.iinc 1 1, 3) := by decide +kernel
theorem dX8_init_73 : decode cX8_init 73 = .ok (.goto (-21), 3) := by decide +kernel
theorem dX8_init_76 : decode cX8_init 76 = .ok (.iconst 0, 1) := by decide +kernel
theorem dX8_init_77 : decode cX8_init 77 = .ok (.istore_n 1, 1) := by decide +kernel
theorem dX8_init_78 : decode cX8_init 78 = .ok (.iload_n 1, 1) := by decide +kernel
theorem dX8_init_79 : decode cX8_init 79 = .ok (.bipush 10, 2) := by decide +kernel
theorem dX8_init_81 : decode cX8_init 81 = .ok (.if_icmp .ge 22, 3) := by decide +kernel
theorem dX8_init_84 : decode cX8_init 84 = .ok (.aload_n 0, 1) := by decide +kernel
theorem dX8_init_85 : decode cX8_init 85 = .ok (.getfield 19, 3) := by decide +kernel
theorem dX8_init_88 : decode cX8_init 88 = .ok (.iload_n 1, 1) := by decide +kernel
theorem dX8_init_89 : decode cX8_init 89 = .ok (.new 17, 3) := by decide +kernel
theorem dX8_init_92 : decode cX8_init 92 = .ok (.dup, 1) := by decide +kernel
theorem dX8_init_93 : decode cX8_init 93 = .ok (.invokespecial 43, 3) := by decide +kernel
theorem dX8_init_96 : decode cX8_init 96 = .ok (.aastore, 1) := by decide +kernel
theorem dX8_init_97 : decode cX8_init 97 = .ok (.iinc 1 1, 3) := by decide +kernel
theorem dX8_init_100 : decode cX8_init 100 = .ok (.goto (-22), 3) := by decide +kernel
theorem dX8_init_103 : decode cX8_init 103 = .ok (.iconst 0, 1) := by decide +kernel
theorem dX8_init_104 : decode cX8_init 104 = .ok (.istore_n 1, 1) := by decide +kernel
theorem dX8_init_105 : decode cX8_init 105 = .ok (.iload_n 1, 1) := by decide +kernel
theorem dX8_init_106 : decode cX8_init 106 = .ok (.bipush 6, 2) := by decide +kernel
theorem dX8_init_108 : decode cX8_init 108 = .ok (.if_icmp .ge 22, 3) := by decide +kernel
theorem dX8_init_111 : decode cX8_init 111 = .ok (.aload_n 0, 1) := by decide +kernel
theorem dX8_init_112 : decode cX8_init 112 = .ok (.getfield 25, 3) := by decide +kernel
theorem dX8_init_115 : decode cX8_init 115 = .ok (.iload_n 1, 1) := by decide +kernel
theorem dX8_init_116 : decode cX8_init 116 = .ok (.new 23, 3) := by decide +kernel
theorem dX8_init_119 : decode cX8_init 119 = .ok (.dup, 1) := by decide +kernel
theorem dX8_init_120 : decode cX8_init 120 = .ok (.invokespecial 44, 3) := by decide +kernel
theorem dX8_init_123 : decode cX8_init 123 = .ok (.aastore, 1) := by decide +kernel
theorem dX8_init_124 : decode cX8_init 124 = .ok (.iinc 1 1, 3) := by decide +kernel
theorem dX8_init_127 : decode cX8_init 127 = .ok (.goto (-22), 3) := by decide +kernel
theorem dX8_init_130 : decode cX8_init 130 = .ok (.return_, 1) := by decide +kernel
theorem dX8_hasGuest_0 : decode cX8_hasGuest 0 = .ok (.iload_n 1, 1) := by decide +kernel
theorem dX8_hasGuest_1 : decode cX8_hasGuest 1 = .ok (.ifCond .lt 15, 3) := by decide +kernel
theorem dX8_hasGuest_4 : decode cX8_hasGuest 4 = .ok (.iload_n 1, 1) := by decide +kernel
theorem dX8_hasGuest_5 : decode cX8_hasGuest 5 = .ok (.aload_n 0, 1) := by decide +kernel
theorem dX8_hasGuest_6 : decode cX8_hasGuest 6 = .ok (.getfield 29, 3) := by decide +kernel
theorem dX8_hasGuest_9 : decode cX8_hasGuest 9 = .ok (.if_icmp .ge 7, 3) := by decide +kernel
theorem dX8_hasGuest_12 : decode cX8_hasGuest 12 = .ok (.iconst 1, 1) := by decide +kernel
theorem dX8_hasGuest_13 : decode cX8_hasGuest 13 = .ok (.goto 4, 3) := by decide +kernel
theorem dX8_hasGuest_16 : decode cX8_hasGuest 16 = .ok (.iconst 0, 1) := by decide +kernel
theorem dX8_hasGuest_17 : decode cX8_hasGuest 17 = .ok (.ireturn, 1) := by decide +kernel
theorem dX8_hasSlip_0 : decode cX8_hasSlip 0 = .ok (.iload_n 1, 1) := by decide +kernel
theorem dX8_hasSlip_1 : decode cX8_hasSlip 1 = .ok (.ifCond .lt 15, 3) := by decide +kernel
theorem dX8_hasSlip_4 : decode cX8_hasSlip 4 = .ok (.iload_n 1, 1) := by decide +kernel
theorem dX8_hasSlip_5 : decode cX8_hasSlip 5 = .ok (.aload_n 0, 1) := by decide +kernel
theorem dX8_hasSlip_6 : decode cX8_hasSlip 6 = .ok (.getfield 33, 3) := by decide +kernel
theorem dX8_hasSlip_9 : decode cX8_hasSlip 9 = .ok (.if_icmp .ge 7, 3) := by decide +kernel
theorem dX8_hasSlip_12 : decode cX8_hasSlip 12 = .ok (.iconst 1, 1) := by decide +kernel
theorem dX8_hasSlip_13 : decode cX8_hasSlip 13 = .ok (.goto 4, 3) := by decide +kernel
theorem dX8_hasSlip_16 : decode cX8_hasSlip 16 = .ok (.iconst 0, 1) := by decide +kernel
theorem dX8_hasSlip_17 : decode cX8_hasSlip 17 = .ok (.ireturn, 1) := by decide +kernel
theorem dX8_addGuest_0 : decode cX8_addGuest 0 = .ok (.aload_n 0, 1) := by decide +kernel
theorem dX8_addGuest_1 : decode cX8_addGuest 1 = .ok (.getfield 29, 3) := by decide +kernel
theorem dX8_addGuest_4 : decode cX8_addGuest 4 = .ok (.iconst 5, 1) := by decide +kernel
theorem dX8_addGuest_5 : decode cX8_addGuest 5 = .ok (.if_icmp .lt 6, 3) := by decide +kernel
theorem dX8_addGuest_8 : decode cX8_addGuest 8 = .ok (.bipush (-4), 2) := by decide +kernel
theorem dX8_addGuest_10 : decode cX8_addGuest 10 = .ok (.ireturn, 1) := by decide +kernel
theorem dX8_addGuest_11 : decode cX8_addGuest 11 = .ok (.aload_n 0, 1) := by decide +kernel
theorem dX8_addGuest_12 : decode cX8_addGuest 12 = .ok (.getfield 11, 3) := by decide +kernel
theorem dX8_addGuest_15 : decode cX8_addGuest 15 = .ok (.aload_n 0, 1) := by decide +kernel
theorem dX8_addGuest_16 : decode cX8_addGuest 16 = .ok (.getfield 29, 3) := by decide +kernel
theorem dX8_addGuest_19 : decode cX8_addGuest 19 = .ok (.aaload, 1) := by decide +kernel
theorem dX8_addGuest_20 : decode cX8_addGuest 20 = .ok (.getfield 45, 3) := by decide +kernel
theorem dX8_addGuest_23 : decode cX8_addGuest 23 = .ok (.astore 5, 2) := by decide +kernel
theorem dX8_addGuest_25 : decode cX8_addGuest 25 = .ok (.aload 5, 2) := by decide +kernel
theorem dX8_addGuest_27 : decode cX8_addGuest 27 = .ok (.iconst 0, 1) := by decide +kernel
theorem dX8_addGuest_28 : decode cX8_addGuest 28 = .ok (.iload_n 1, 1) := by decide +kernel
theorem dX8_addGuest_29 : decode cX8_addGuest 29 = .ok (.iastore, 1) := by decide +kernel
theorem dX8_addGuest_30 : decode cX8_addGuest 30 = .ok (.aload 5, 2) := by decide +kernel
theorem dX8_addGuest_32 : decode cX8_addGuest 32 = .ok (.iconst 1, 1) := by decide +kernel
theorem dX8_addGuest_33 : decode cX8_addGuest 33 = .ok (.iload_n 2, 1) := by decide +kernel
theorem dX8_addGuest_34 : decode cX8_addGuest 34 = .ok (.iastore, 1) := by decide +kernel
theorem dX8_addGuest_35 : decode cX8_addGuest 35 = .ok (.aload 5, 2) := by decide +kernel
theorem dX8_addGuest_37 : decode cX8_addGuest 37 = .ok (.iconst 2, 1) := by decide +kernel
theorem dX8_addGuest_38 : decode cX8_addGuest 38 = .ok (.iload_n 3, 1) := by decide +kernel
theorem dX8_addGuest_39 : decode cX8_addGuest 39 = .ok (.iastore, 1) := by decide +kernel
theorem dX8_addGuest_40 : decode cX8_addGuest 40 = .ok (.aload 5, 2) := by decide +kernel
theorem dX8_addGuest_42 : decode cX8_addGuest 42 = .ok (.iconst 3, 1) := by decide +kernel
theorem dX8_addGuest_43 : decode cX8_addGuest 43 = .ok (.iload 4, 2) := by decide +kernel
theorem dX8_addGuest_45 : decode cX8_addGuest 45 = .ok (.iastore, 1) := by decide +kernel
theorem dX8_addGuest_46 : decode cX8_addGuest 46 = .ok (.aload_n 0, 1) := by decide +kernel
theorem dX8_addGuest_47 : decode cX8_addGuest 47 = .ok (.dup, 1) := by decide +kernel
theorem dX8_addGuest_48 : decode cX8_addGuest 48 = .ok (.getfield 29, 3) := by decide +kernel
theorem dX8_addGuest_51 : decode cX8_addGuest 51 = .ok (.iconst 1, 1) := by decide +kernel
theorem dX8_addGuest_52 : decode cX8_addGuest 52 = .ok (.iadd, 1) := by decide +kernel
theorem dX8_addGuest_53 : decode cX8_addGuest 53 = .ok (.putfield 29, 3) := by decide +kernel
theorem dX8_addGuest_56 : decode cX8_addGuest 56 = .ok (.aload_n 0, 1) := by decide +kernel
theorem dX8_addGuest_57 : decode cX8_addGuest 57 = .ok (.getfield 29, 3) := by decide +kernel
theorem dX8_addGuest_60 : decode cX8_addGuest 60 = .ok (.iconst 1, 1) := by decide +kernel
theorem dX8_addGuest_61 : decode cX8_addGuest 61 = .ok (.isub, 1) := by decide +kernel
theorem dX8_addGuest_62 : decode cX8_addGuest 62 = .ok (.ireturn, 1) := by decide +kernel
theorem dX8_addSlip_0 : decode cX8_addSlip 0 = .ok (.aload_n 0, 1) := by decide +kernel
theorem dX8_addSlip_1 : decode cX8_addSlip 1 = .ok (.getfield 33, 3) := by decide +kernel
theorem dX8_addSlip_4 : decode cX8_addSlip 4 = .ok (.bipush 10, 2) := by decide +kernel
theorem dX8_addSlip_6 : decode cX8_addSlip 6 = .ok (.if_icmp .lt 6, 3) := by decide +kernel
theorem dX8_addSlip_9 : decode cX8_addSlip 9 = .ok (.bipush (-4), 2) := by decide +kernel
theorem dX8_addSlip_11 : decode cX8_addSlip 11 = .ok (.ireturn, 1) := by decide +kernel
theorem dX8_addSlip_12 : decode cX8_addSlip 12 = .ok (.aload_n 0, 1) := by decide +kernel
theorem dX8_addSlip_13 : decode cX8_addSlip 13 = .ok (.getfield 19, 3) := by decide +kernel
theorem dX8_addSlip_16 : decode cX8_addSlip 16 = .ok (.aload_n 0, 1) := by decide +kernel
theorem dX8_addSlip_17 : decode cX8_addSlip 17 = .ok (.getfield 33, 3) := by decide +kernel
theorem dX8_addSlip_20 : decode cX8_addSlip 20 = .ok (.aaload, 1) := by decide +kernel
theorem dX8_addSlip_21 : decode cX8_addSlip 21 = .ok (.iload_n 1, 1) := by decide +kernel
theorem dX8_addSlip_22 : decode cX8_addSlip 22 = .ok (.iload_n 2, 1) := by decide +kernel
theorem dX8_addSlip_23 : decode cX8_addSlip 23 = .ok (.iload_n 3, 1) := by decide +kernel
theorem dX8_addSlip_24 : decode cX8_addSlip 24 = .ok (.iload 4, 2) := by decide +kernel
theorem dX8_addSlip_26 : decode cX8_addSlip 26 = .ok (.invokevirtual 49, 3) := by decide +kernel
theorem dX8_addSlip_29 : decode cX8_addSlip 29 = .ok (.aload_n 0, 1) := by decide +kernel
theorem dX8_addSlip_30 : decode cX8_addSlip 30 = .ok (.dup, 1) := by decide +kernel
theorem dX8_addSlip_31 : decode cX8_addSlip 31 = .ok (.getfield 33, 3) := by decide +kernel
theorem dX8_addSlip_34 : decode cX8_addSlip 34 = .ok (.iconst 1, 1) := by decide +kernel
theorem dX8_addSlip_35 : decode cX8_addSlip 35 = .ok (.iadd, 1) := by decide +kernel
theorem dX8_addSlip_36 : decode cX8_addSlip 36 = .ok (.putfield 33, 3) := by decide +kernel
theorem dX8_addSlip_39 : decode cX8_addSlip 39 = .ok (.aload_n 0, 1) := by decide +kernel
theorem dX8_addSlip_40 : decode cX8_addSlip 40 = .ok (.getfield 33, 3) := by decide +kernel
theorem dX8_addSlip_43 : decode cX8_addSlip 43 = .ok (.iconst 1, 1) := by decide +kernel
theorem dX8_addSlip_44 : decode cX8_addSlip 44 = .ok (.isub, 1) := by decide +kernel
theorem dX8_addSlip_45 : decode cX8_addSlip 45 = .ok (.ireturn, 1) := by decide +kernel
theorem dX8_liesAbove_0 : decode cX8_liesAbove 0 = .ok (.aload_n 0, 1) := by decide +kernel
theorem dX8_liesAbove_1 : decode cX8_liesAbove 1 = .ok (.getfield 19, 3) := by decide +kernel
theorem dX8_liesAbove_4 : decode cX8_liesAbove 4 = .ok (.iload_n 1, 1) := by decide +kernel
theorem dX8_liesAbove_5 : decode cX8_liesAbove 5 = .ok (.aaload, 1) := by decide +kernel
theorem dX8_liesAbove_6 : decode cX8_liesAbove 6 = .ok (.astore_n 3, 1) := by decide +kernel
theorem dX8_liesAbove_7 : decode cX8_liesAbove 7 = .ok (.aload_n 0, 1) := by decide +kernel
theorem dX8_liesAbove_8 : decode cX8_liesAbove 8 = .ok (.getfield 19, 3) := by decide +kernel
theorem dX8_liesAbove_11 : decode cX8_liesAbove 11 = .ok (.iload_n 2, 1) := by decide +kernel
theorem dX8_liesAbove_12 : decode cX8_liesAbove 12 = .ok (.aaload, 1) := by decide +kernel
theorem dX8_liesAbove_13 : decode cX8_liesAbove 13 = .ok (.astore 4, 2) := by decide +kernel
theorem dX8_liesAbove_15 : decode cX8_liesAbove 15 = .ok (.aload_n 3, 1) := by decide +kernel
theorem dX8_liesAbove_16 : decode cX8_liesAbove 16 = .ok (.getfield 53, 3) := by decide +kernel
theorem dX8_liesAbove_19 : decode cX8_liesAbove 19 = .ok (.aload 4, 2) := by decide +kernel
theorem dX8_liesAbove_21 : decode cX8_liesAbove 21 = .ok (.getfield 53, 3) := by decide +kernel
theorem dX8_liesAbove_24 : decode cX8_liesAbove 24 = .ok (.if_icmp .eq 21, 3) := by decide +kernel
theorem dX8_liesAbove_27 : decode cX8_liesAbove 27 = .ok (.aload_n 3, 1) := by decide +kernel
theorem dX8_liesAbove_28 : decode cX8_liesAbove 28 = .ok (.getfield 53, 3) := by decide +kernel
theorem dX8_liesAbove_31 : decode cX8_liesAbove 31 = .ok (.aload 4, 2) := by decide +kernel
theorem dX8_liesAbove_33 : decode cX8_liesAbove 33 = .ok (.getfield 53, 3) := by decide +kernel
theorem dX8_liesAbove_36 : decode cX8_liesAbove 36 = .ok (.if_icmp .le 7, 3) := by decide +kernel
theorem dX8_liesAbove_39 : decode cX8_liesAbove 39 = .ok (.iconst 1, 1) := by decide +kernel
theorem dX8_liesAbove_40 : decode cX8_liesAbove 40 = .ok (.goto 4, 3) := by decide +kernel
theorem dX8_liesAbove_43 : decode cX8_liesAbove 43 = .ok (.iconst 0, 1) := by decide +kernel
theorem dX8_liesAbove_44 : decode cX8_liesAbove 44 = .ok (.ireturn, 1) := by decide +kernel
theorem dX8_liesAbove_45 : decode cX8_liesAbove 45 = .ok (.aload_n 3, 1) := by decide +kernel
theorem dX8_liesAbove_46 : decode cX8_liesAbove 46 = .ok (.getfield 56, 3) := by decide +kernel
theorem dX8_liesAbove_49 : decode cX8_liesAbove 49 = .ok (.aload 4, 2) := by decide +kernel
theorem dX8_liesAbove_51 : decode cX8_liesAbove 51 = .ok (.getfield 56, 3) := by decide +kernel
theorem dX8_liesAbove_54 : decode cX8_liesAbove 54 = .ok (.if_icmp .eq 23, 3) := by decide +kernel
theorem dX8_liesAbove_57 : decode cX8_liesAbove 57 = .ok (.aload_n 3, 1) := by decide +kernel
theorem dX8_liesAbove_58 : decode cX8_liesAbove 58 = .ok (.getfield 56, 3) := by decide +kernel
theorem dX8_liesAbove_61 : decode cX8_liesAbove 61 = .ok (.aload 4, 2) := by decide +kernel
theorem dX8_liesAbove_63 : decode cX8_liesAbove 63 = .ok (.getfield 56, 3) := by decide +kernel
theorem dX8_liesAbove_66 : decode cX8_liesAbove 66 = .ok (.if_icmp .le 7, 3) := by decide +kernel
theorem dX8_liesAbove_69 : decode cX8_liesAbove 69 = .ok (.iconst 1, 1) := by decide +kernel
theorem dX8_liesAbove_70 : decode cX8_liesAbove 70 = .ok (.goto 17, 3) := by decide +kernel
theorem dX8_liesAbove_73 : decode cX8_liesAbove 73 = .ok (.iconst 0, 1) := by decide +kernel
theorem dX8_liesAbove_74 : decode cX8_liesAbove 74 = .ok (.goto 13, 3) := by decide +kernel
theorem dX8_liesAbove_77 : decode cX8_liesAbove 77 = .ok (.iload_n 1, 1) := by decide +kernel
theorem dX8_liesAbove_78 : decode cX8_liesAbove 78 = .ok (.iload_n 2, 1) := by decide +kernel
theorem dX8_liesAbove_79 : decode cX8_liesAbove 79 = .ok (.if_icmp .le 7, 3) := by decide +kernel
theorem dX8_liesAbove_82 : decode cX8_liesAbove 82 = .ok (.iconst 1, 1) := by decide +kernel
theorem dX8_liesAbove_83 : decode cX8_liesAbove 83 = .ok (.goto 4, 3) := by decide +kernel
theorem dX8_liesAbove_86 : decode cX8_liesAbove 86 = .ok (.iconst 0, 1) := by decide +kernel
theorem dX8_liesAbove_87 : decode cX8_liesAbove 87 = .ok (.ireturn, 1) := by decide +kernel
theorem dX8_whoComes_0 : decode cX8_whoComes 0 = .ok (.iconst 0, 1) := by decide +kernel
theorem dX8_whoComes_1 : decode cX8_whoComes 1 = .ok (.istore_n 2, 1) := by decide +kernel
theorem dX8_whoComes_2 : decode cX8_whoComes 2 = .ok (.iconst 0, 1) := by decide +kernel
theorem dX8_whoComes_3 : decode cX8_whoComes 3 = .ok (.istore_n 3, 1) := by decide +kernel
theorem dX8_whoComes_4 : decode cX8_whoComes 4 = .ok (.iload_n 3, 1) := by decide +kernel
theorem dX8_whoComes_5 : decode cX8_whoComes 5 = .ok (.aload_n 0, 1) := by decide +kernel
theorem dX8_whoComes_6 : decode cX8_whoComes 6 = .ok (.getfield 29, 3) := by decide +kernel
theorem dX8_whoComes_9 : decode cX8_whoComes 9 = .ok (.if_icmp .ge 28, 3) := by decide +kernel
theorem dX8_whoComes_12 : decode cX8_whoComes 12 = .ok (.aload_n 0, 1) := by decide +kernel
theorem dX8_whoComes_13 : decode cX8_whoComes 13 = .ok (.getfield 11, 3) := by decide +kernel
theorem dX8_whoComes_16 : decode cX8_whoComes 16 = .ok (.iload_n 3, 1) := by decide +kernel
theorem dX8_whoComes_17 : decode cX8_whoComes 17 = .ok (.aaload, 1) := by decide +kernel
theorem dX8_whoComes_18 : decode cX8_whoComes 18 = .ok (.iload_n 1, 1) := by decide +kernel
theorem dX8_whoComes_19 : decode cX8_whoComes 19 = .ok (.invokevirtual 59, 3) := by decide +kernel
theorem dX8_whoComes_22 : decode cX8_whoComes 22 = .ok (.ifCond .eq 9, 3) := by decide +kernel
theorem dX8_whoComes_25 : decode cX8_whoComes 25 = .ok (.iload_n 2, 1) := by decide +kernel
theorem dX8_whoComes_26 : decode cX8_whoComes 26 = .ok (.iconst 1, 1) := by decide +kernel
theorem dX8_whoComes_27 : decode cX8_whoComes 27 = .ok (.iload_n 3, 1) := by decide +kernel
theorem dX8_whoComes_28 : decode cX8_whoComes 28 = .ok (.ishl, 1) := by decide +kernel
theorem dX8_whoComes_29 : decode cX8_whoComes 29 = .ok (.ior, 1) := by decide +kernel
theorem dX8_whoComes_30 : decode cX8_whoComes 30 = .ok (.istore_n 2, 1) := by decide +kernel
theorem dX8_whoComes_31 : decode cX8_whoComes 31 = .ok (.iinc 3 1, 3) := by decide +kernel
theorem dX8_whoComes_34 : decode cX8_whoComes 34 = .ok (.goto (-30), 3) := by decide +kernel
theorem dX8_whoComes_37 : decode cX8_whoComes 37 = .ok (.iload_n 2, 1) := by decide +kernel
theorem dX8_whoComes_38 : decode cX8_whoComes 38 = .ok (.ireturn, 1) := by decide +kernel
theorem dX9_init_0 : decode cX9_init 0 = .ok (.aload_n 0, 1) := by decide +kernel
theorem dX9_init_1 : decode cX9_init 1 = .ok (.invokespecial 5, 3) := by decide +kernel
theorem dX9_init_4 : decode cX9_init 4 = .ok (.aload_n 0, 1) := by decide +kernel
theorem dX9_init_5 : decode cX9_init 5 = .ok (.iconst 0, 1) := by decide +kernel
theorem dX9_init_6 : decode cX9_init 6 = .ok (.putfield 11, 3) := by decide +kernel
theorem dX9_init_9 : decode cX9_init 9 = .ok (.aload_n 0, 1) := by decide +kernel
theorem dX9_init_10 : decode cX9_init 10 = .ok (.sipush 160, 3) := by decide +kernel
theorem dX9_init_13 : decode cX9_init 13 = .ok (.newarray .int, 2) := by decide +kernel
theorem dX9_init_15 : decode cX9_init 15 = .ok (.putfield 15, 3) := by decide +kernel
theorem dX9_init_18 : decode cX9_init 18 = .ok (.aload_n 0, 1) := by decide +kernel
theorem dX9_init_19 : decode cX9_init 19 = .ok (.sipush 161, 3) := by decide +kernel
theorem dX9_init_22 : decode cX9_init 22 = .ok (.newarray .int, 2) := by decide +kernel
theorem dX9_init_24 : decode cX9_init 24 = .ok (.putfield 19, 3) := by decide +kernel
theorem dX9_init_27 : decode cX9_init 27 = .ok (.aload_n 0, 1) := by decide +kernel
theorem dX9_init_28 : decode cX9_init 28 = .ok (.sipush 161, 3) := by decide +kernel
theorem dX9_init_31 : decode cX9_init 31 = .ok (.newarray .int, 2) := by decide +kernel
theorem dX9_init_33 : decode cX9_init 33 = .ok (.putfield 22, 3) := by decide +kernel
theorem dX9_init_36 : decode cX9_init 36 = .ok (.aload_n 0, 1) := by decide +kernel
theorem dX9_init_37 : decode cX9_init 37 = .ok (.iconst 0, 1) := by decide +kernel
theorem dX9_init_38 : decode cX9_init 38 = .ok (.putfield 25, 3) := by decide +kernel
theorem dX9_init_41 : decode cX9_init 41 = .ok (.return_, 1) := by decide +kernel
theorem dX9_append_0 : decode cX9_append 0 = .ok (.aload_n 0, 1) := by decide +kernel
theorem dX9_append_1 : decode cX9_append 1 = .ok (.getfield 11, 3) := by decide +kernel
theorem dX9_append_4 : decode cX9_append 4 = .ok (.sipush 160, 3) := by decide +kernel
theorem dX9_append_7 : decode cX9_append 7 = .ok (.if_icmp .lt 5, 3) := by decide +kernel
theorem dX9_append_10 : decode cX9_append 10 = .ok (.iconst 0, 1) := by decide +kernel
theorem dX9_append_11 : decode cX9_append 11 = .ok (.ireturn, 1) := by decide +kernel
theorem dX9_append_12 : decode cX9_append 12 = .ok (.aload_n 0, 1) := by decide +kernel
theorem dX9_append_13 : decode cX9_append 13 = .ok (.getfield 15, 3) := by decide +kernel
theorem dX9_append_16 : decode cX9_append 16 = .ok (.aload_n 0, 1) := by decide +kernel
theorem dX9_append_17 : decode cX9_append 17 = .ok (.getfield 11, 3) := by decide +kernel
theorem dX9_append_20 : decode cX9_append 20 = .ok (.iload_n 1, 1) := by decide +kernel
theorem dX9_append_21 : decode cX9_append 21 = .ok (.iastore, 1) := by decide +kernel
theorem dX9_append_22 : decode cX9_append 22 = .ok (.aload_n 0, 1) := by decide +kernel
theorem dX9_append_23 : decode cX9_append 23 = .ok (.dup, 1) := by decide +kernel
theorem dX9_append_24 : decode cX9_append 24 = .ok (.getfield 11, 3) := by decide +kernel
theorem dX9_append_27 : decode cX9_append 27 = .ok (.iconst 1, 1) := by decide +kernel
theorem dX9_append_28 : decode cX9_append 28 = .ok (.iadd, 1) := by decide +kernel
theorem dX9_append_29 : decode cX9_append 29 = .ok (.putfield 11, 3) := by decide +kernel
theorem dX9_append_32 : decode cX9_append 32 = .ok (.iconst 1, 1) := by decide +kernel
theorem dX9_append_33 : decode cX9_append 33 = .ok (.ireturn, 1) := by decide +kernel
theorem dX9_scan_0 : decode cX9_scan 0 = .ok (.aload_n 0, 1) := by decide +kernel
theorem dX9_scan_1 : decode cX9_scan 1 = .ok (.iconst 0, 1) := by decide +kernel
theorem dX9_scan_2 : decode cX9_scan 2 = .ok (.putfield 25, 3) := by decide +kernel
theorem dX9_scan_5 : decode cX9_scan 5 = .ok (.iconst 0, 1) := by decide +kernel
theorem dX9_scan_6 : decode cX9_scan 6 = .ok (.istore_n 1, 1) := by decide +kernel
theorem dX9_scan_7 : decode cX9_scan 7 = .ok (.iload_n 1, 1) := by decide +kernel
theorem dX9_scan_8 : decode cX9_scan 8 = .ok (.sipush 160, 3) := by decide +kernel
theorem dX9_scan_11 : decode cX9_scan 11 = .ok (.if_icmp .gt 62, 3) := by decide +kernel
theorem dX9_scan_14 : decode cX9_scan 14 = .ok (.aload_n 0, 1) := by decide +kernel
theorem dX9_scan_15 : decode cX9_scan 15 = .ok (.invokevirtual 28, 3) := by decide +kernel
theorem dX9_scan_18 : decode cX9_scan 18 = .ok (.aload_n 0, 1) := by decide +kernel
theorem dX9_scan_19 : decode cX9_scan 19 = .ok (.getfield 22, 3) := by decide +kernel
theorem dX9_scan_22 : decode cX9_scan 22 = .ok (.iload_n 1, 1) := by decide +kernel
theorem dX9_scan_23 : decode cX9_scan 23 = .ok (.aload_n 0, 1) := by decide +kernel
theorem dX9_scan_24 : decode cX9_scan 24 = .ok (.getfield 25, 3) := by decide +kernel
theorem dX9_scan_27 : decode cX9_scan 27 = .ok (.iastore, 1) := by decide +kernel
theorem dX9_scan_28 : decode cX9_scan 28 = .ok (.aload_n 0, 1) := by decide +kernel
theorem dX9_scan_29 : decode cX9_scan 29 = .ok (.getfield 19, 3) := by decide +kernel
theorem dX9_scan_32 : decode cX9_scan 32 = .ok (.iload_n 1, 1) := by decide +kernel
theorem dX9_scan_33 : decode cX9_scan 33 = .ok (.aload_n 0, 1) := by decide +kernel
theorem dX9_scan_34 : decode cX9_scan 34 = .ok (.aload_n 0, 1) := by decide +kernel
theorem dX9_scan_35 : decode cX9_scan 35 = .ok (.getfield 25, 3) := by decide +kernel
theorem dX9_scan_38 : decode cX9_scan 38 = .ok (.invokevirtual 31, 3) := by decide +kernel
theorem dX9_scan_41 : decode cX9_scan 41 = .ok (.iastore, 1) := by decide +kernel
theorem dX9_scan_42 : decode cX9_scan 42 = .ok (.aload_n 0, 1) := by decide +kernel
theorem dX9_scan_43 : decode cX9_scan 43 = .ok (.getfield 19, 3) := by decide +kernel
theorem dX9_scan_46 : decode cX9_scan 46 = .ok (.iload_n 1, 1) := by decide +kernel
theorem dX9_scan_47 : decode cX9_scan 47 = .ok (.iaload, 1) := by decide +kernel
theorem dX9_scan_48 : decode cX9_scan 48 = .ok (.sipush 20259, 3) := by decide +kernel
theorem dX9_scan_51 : decode cX9_scan 51 = .ok (.if_icmp .eq 15, 3) := by decide +kernel
theorem dX9_scan_54 : decode cX9_scan 54 = .ok (.aload_n 0, 1) := by decide +kernel
theorem dX9_scan_55 : decode cX9_scan 55 = .ok (.getfield 19, 3) := by decide +kernel
theorem dX9_scan_58 : decode cX9_scan 58 = .ok (.iload_n 1, 1) := by decide +kernel
theorem dX9_scan_59 : decode cX9_scan 59 = .ok (.iaload, 1) := by decide +kernel
theorem dX9_scan_60 : decode cX9_scan 60 = .ok (.sipush 20260, 3) := by decide +kernel
theorem dX9_scan_63 : decode cX9_scan 63 = .ok (.if_icmp .ne 4, 3) := by decide +kernel
theorem dX9_scan_66 : decode cX9_scan 66 = .ok (.return_, 1) := by decide +kernel
theorem dX9_scan_67 : decode cX9_scan 67 = .ok (.iinc 1 1, 3) := by decide +kernel
theorem dX9_scan_70 : decode cX9_scan 70 = .ok (.goto (-63), 3) := by decide +kernel
theorem dX9_scan_73 : decode cX9_scan 73 = .ok (.return_, 1) := by decide +kernel
theorem dX9_skipBlanks_0 : decode cX9_skipBlanks 0 = .ok (.aload_n 0, 1) := by decide +kernel
theorem dX9_skipBlanks_1 : decode cX9_skipBlanks 1 = .ok (.getfield 25, 3) := by decide +kernel
theorem dX9_skipBlanks_4 : decode cX9_skipBlanks 4 = .ok (.aload_n 0, 1) := by decide +kernel
theorem dX9_skipBlanks_5 : decode cX9_skipBlanks 5 = .ok (.getfield 11, 3) := by decide +kernel
theorem dX9_skipBlanks_8 : decode cX9_skipBlanks 8 = .ok (.if_icmp .ge 44, 3) := by decide +kernel
theorem dX9_skipBlanks_11 : decode cX9_skipBlanks 11 = .ok (.aload_n 0, 1) := by decide +kernel
theorem dX9_skipBlanks_12 : decode cX9_skipBlanks 12 = .ok (.getfield 15, 3) := by decide +kernel
theorem dX9_skipBlanks_15 : decode cX9_skipBlanks 15 = .ok (.aload_n 0, 1) := by decide +kernel
theorem dX9_skipBlanks_16 : decode cX9_skipBlanks 16 = .ok (.getfield 25, 3) := by decide +kernel
theorem dX9_skipBlanks_19 : decode cX9_skipBlanks 19 = .ok (.iaload, 1) := by decide +kernel
theorem dX9_skipBlanks_20 : decode cX9_skipBlanks 20 = .ok (.bipush 32, 2) := by decide +kernel
theorem dX9_skipBlanks_22 : decode cX9_skipBlanks 22 = .ok (.if_icmp .eq 17, 3) := by decide +kernel
theorem dX9_skipBlanks_25 : decode cX9_skipBlanks 25 = .ok (.aload_n 0, 1) := by decide +kernel
theorem dX9_skipBlanks_26 : decode cX9_skipBlanks 26 = .ok (.getfield 15, 3) := by decide +kernel
theorem dX9_skipBlanks_29 : decode cX9_skipBlanks 29 = .ok (.aload_n 0, 1) := by decide +kernel
theorem dX9_skipBlanks_30 : decode cX9_skipBlanks 30 = .ok (.getfield 25, 3) := by decide +kernel
theorem dX9_skipBlanks_33 : decode cX9_skipBlanks 33 = .ok (.iaload, 1) := by decide +kernel
theorem dX9_skipBlanks_34 : decode cX9_skipBlanks 34 = .ok (.bipush 10, 2) := by decide +kernel
theorem dX9_skipBlanks_36 : decode cX9_skipBlanks 36 = .ok (.if_icmp .ne 16, 3) := by decide +kernel
theorem dX9_skipBlanks_39 : decode cX9_skipBlanks 39 = .ok (.aload_n 0, 1) := by decide +kernel
theorem dX9_skipBlanks_40 : decode cX9_skipBlanks 40 = .ok (.dup, 1) := by decide +kernel
theorem dX9_skipBlanks_41 : decode cX9_skipBlanks 41 = .ok (.getfield 25, 3) := by decide +kernel
theorem dX9_skipBlanks_44 : decode cX9_skipBlanks 44 = .ok (.iconst 1, 1) := by decide +kernel
theorem dX9_skipBlanks_45 : decode cX9_skipBlanks 45 = .ok (.iadd, 1) := by decide +kernel
theorem dX9_skipBlanks_46 : decode cX9_skipBlanks 46 = .ok (.putfield 25, 3) := by decide +kernel
theorem dX9_skipBlanks_49 : decode cX9_skipBlanks 49 = .ok (.goto (-49), 3) := by decide +kernel
theorem dX9_skipBlanks_52 : decode cX9_skipBlanks 52 = .ok (.return_, 1) := by decide +kernel
theorem dX9_nextToken_0 : decode cX9_nextToken 0 = .ok (.iload_n 1, 1) := by decide +kernel
theorem dX9_nextToken_1 : decode cX9_nextToken 1 = .ok (.aload_n 0, 1) := by decide +kernel
theorem dX9_nextToken_2 : decode cX9_nextToken 2 = .ok (.getfield 11, 3) := by decide +kernel
theorem dX9_nextToken_5 : decode cX9_nextToken 5 = .ok (.if_icmp .lt 7, 3) := by decide +kernel
theorem dX9_nextToken_8 : decode cX9_nextToken 8 = .ok (.sipush 20259, 3) := by decide +kernel
theorem dX9_nextToken_11 : decode cX9_nextToken 11 = .ok (.ireturn, 1) := by decide +kernel
theorem dX9_nextToken_12 : decode cX9_nextToken 12 = .ok (.aload_n 0, 1) := by decide +kernel
theorem dX9_nextToken_13 : decode cX9_nextToken 13 = .ok (.getfield 15, 3) := by decide +kernel
theorem dX9_nextToken_16 : decode cX9_nextToken 16 = .ok (.iload_n 1, 1) := by decide +kernel
theorem dX9_nextToken_17 : decode cX9_nextToken 17 = .ok (.iaload, 1) := by decide +kernel
theorem dX9_nextToken_18 : decode cX9_nextToken 18 = .ok (.istore_n 2, 1) := by decide +kernel
theorem dX9_nextToken_19 : decode cX9_nextToken 19 = .ok (.iload_n 2, 1) := by decide +kernel
theorem dX9_nextToken_20 : decode cX9_nextToken 20 = .ok (.invokestatic 35, 3) := by decide +kernel
theorem dX9_nextToken_23 : decode cX9_nextToken 23 = .ok (.ifCond .eq 9, 3) := by decide +kernel
theorem dX9_nextToken_26 : decode cX9_nextToken 26 = .ok (.aload_n 0, 1) := by decide +kernel
theorem dX9_nextToken_27 : decode cX9_nextToken 27 = .ok (.iload_n 1, 1) := by decide +kernel
theorem dX9_nextToken_28 : decode cX9_nextToken 28 = .ok (.invokevirtual 39, 3) := by decide +kernel
theorem dX9_nextToken_31 : decode cX9_nextToken 31 = .ok (.ireturn, 1) := by decide +kernel
theorem dX9_nextToken_32 : decode cX9_nextToken 32 = .ok (.iload_n 2, 1) := by decide +kernel
theorem dX9_nextToken_33 : decode cX9_nextToken 33 = .ok (.invokestatic 42, 3) := by decide +kernel
theorem dX9_nextToken_36 : decode cX9_nextToken 36 = .ok (.ifCond .eq 9, 3) := by decide +kernel
theorem dX9_nextToken_39 : decode cX9_nextToken 39 = .ok (.aload_n 0, 1) := by decide +kernel
theorem dX9_nextToken_40 : decode cX9_nextToken 40 = .ok (.iload_n 1, 1) := by decide +kernel
theorem dX9_nextToken_41 : decode cX9_nextToken 41 = .ok (.invokevirtual 45, 3) := by decide +kernel
theorem dX9_nextToken_44 : decode cX9_nextToken 44 = .ok (.ireturn, 1) := by decide +kernel
theorem dX9_nextToken_45 : decode cX9_nextToken 45 = .ok (.aload_n 0, 1) := by decide +kernel
theorem dX9_nextToken_46 : decode cX9_nextToken 46 = .ok (.dup, 1) := by decide +kernel
theorem dX9_nextToken_47 : decode cX9_nextToken 47 = .ok (.getfield 25, 3) := by decide +kernel
theorem dX9_nextToken_50 : decode cX9_nextToken 50 = .ok (.iconst 1, 1) := by decide +kernel
theorem dX9_nextToken_51 : decode cX9_nextToken 51 = .ok (.iadd, 1) := by decide +kernel
theorem dX9_nextToken_52 : decode cX9_nextToken 52 = .ok (.putfield 25, 3) := by decide +kernel
theorem dX9_nextToken_55 : decode cX9_nextToken 55 = .ok (.iload_n 2, 1) := by decide +kernel
theorem dX9_nextToken_56 : decode cX9_nextToken 56 = .ok (.invokestatic 48, 3) := by decide +kernel
theorem dX9_nextToken_59 : decode cX9_nextToken 59 = .ok (.ifCond .eq 11, 3) := by decide +kernel
theorem dX9_nextToken_62 : decode cX9_nextToken 62 = .ok (.sipush 20000, 3) := by decide +kernel
theorem dX9_nextToken_65 : decode cX9_nextToken 65 = .ok (.iload_n 2, 1) := by decide +kernel
theorem dX9_nextToken_66 : decode cX9_nextToken 66 = .ok (.iadd, 1) := by decide +kernel
theorem dX9_nextToken_67 : decode cX9_nextToken 67 = .ok (.goto 6, 3) := by decide +kernel
theorem dX9_nextToken_70 : decode cX9_nextToken 70 = .ok (.sipush 20260, 3) := by decide +kernel
theorem dX9_nextToken_73 : decode cX9_nextToken 73 = .ok (.ireturn, 1) := by decide +kernel
theorem dX9_numberToken_0 : decode cX9_numberToken 0 = .ok (.iconst 0, 1) := by decide +kernel
theorem dX9_numberToken_1 : decode cX9_numberToken 1 = .ok (.istore_n 2, 1) := by decide +kernel
theorem dX9_numberToken_2 : decode cX9_numberToken 2 = .ok (.aload_n 0, 1) := by decide +kernel
theorem dX9_numberToken_3 : decode cX9_numberToken 3 = .ok (.getfield 25, 3) := by decide +kernel
theorem dX9_numberToken_6 : decode cX9_numberToken 6 = .ok (.aload_n 0, 1) := by decide +kernel
theorem dX9_numberToken_7 : decode cX9_numberToken 7 = .ok (.getfield 11, 3) := by decide +kernel
theorem dX9_numberToken_10 : decode cX9_numberToken 10 = .ok (.if_icmp .ge 49, 3) := by decide +kernel
theorem dX9_numberToken_13 : decode cX9_numberToken 13 = .ok (.aload_n 0, 1) := by decide +kernel
theorem dX9_numberToken_14 : decode cX9_numberToken 14 = .ok (.getfield 15, 3) := by decide +kernel
theorem dX9_numberToken_17 : decode cX9_numberToken 17 = .ok (.aload_n 0, 1) := by decide +kernel
theorem dX9_numberToken_18 : decode cX9_numberToken 18 = .ok (.getfield 25, 3) := by decide +kernel
theorem dX9_numberToken_21 : decode cX9_numberToken 21 = .ok (.iaload, 1) := by decide +kernel
theorem dX9_numberToken_22 : decode cX9_numberToken 22 = .ok (.invokestatic 42, 3) := by decide +kernel
theorem dX9_numberToken_25 : decode cX9_numberToken 25 = .ok (.ifCond .eq 34, 3) := by decide +kernel
theorem dX9_numberToken_28 : decode cX9_numberToken 28 = .ok (.bipush 10, 2) := by decide +kernel
theorem dX9_numberToken_30 : decode cX9_numberToken 30 = .ok (.iload_n 2, 1) := by decide +kernel
theorem dX9_numberToken_31 : decode cX9_numberToken 31 = .ok (.imul, 1) := by decide +kernel
theorem dX9_numberToken_32 : decode cX9_numberToken 32 = .ok (.aload_n 0, 1) := by decide +kernel
theorem dX9_numberToken_33 : decode cX9_numberToken 33 = .ok (.getfield 15, 3) := by decide +kernel
theorem dX9_numberToken_36 : decode cX9_numberToken 36 = .ok (.aload_n 0, 1) := by decide +kernel
theorem dX9_numberToken_37 : decode cX9_numberToken 37 = .ok (.getfield 25, 3) := by decide +kernel
theorem dX9_numberToken_40 : decode cX9_numberToken 40 = .ok (.iaload, 1) := by decide +kernel
theorem dX9_numberToken_41 : decode cX9_numberToken 41 = .ok (.iadd, 1) := by decide +kernel
theorem dX9_numberToken_42 : decode cX9_numberToken 42 = .ok (.bipush 48, 2) := by decide +kernel
theorem dX9_numberToken_44 : decode cX9_numberToken 44 = .ok (.isub, 1) := by decide +kernel
theorem dX9_numberToken_45 : decode cX9_numberToken 45 = .ok (.istore_n 2, 1) := by decide +kernel
theorem dX9_numberToken_46 : decode cX9_numberToken 46 = .ok (.aload_n 0, 1) := by decide +kernel
theorem dX9_numberToken_47 : decode cX9_numberToken 47 = .ok (.dup, 1) := by decide +kernel
theorem dX9_numberToken_48 : decode cX9_numberToken 48 = .ok (.getfield 25, 3) := by decide +kernel
theorem dX9_numberToken_51 : decode cX9_numberToken 51 = .ok (.iconst 1, 1) := by decide +kernel
theorem dX9_numberToken_52 : decode cX9_numberToken 52 = .ok (.iadd, 1) := by decide +kernel
theorem dX9_numberToken_53 : decode cX9_numberToken 53 = .ok (.putfield 25, 3) := by decide +kernel
theorem dX9_numberToken_56 : decode cX9_numberToken 56 = .ok (.goto (-54), 3) := by decide +kernel
theorem dX9_numberToken_59 : decode cX9_numberToken 59 = .ok (.aload_n 0, 1) := by decide +kernel
theorem dX9_numberToken_60 : decode cX9_numberToken 60 = .ok (.getfield 25, 3) := by decide +kernel
theorem dX9_numberToken_63 : decode cX9_numberToken 63 = .ok (.iload_n 1, 1) := by decide +kernel
theorem dX9_numberToken_64 : decode cX9_numberToken 64 = .ok (.isub, 1) := by decide +kernel
theorem dX9_numberToken_65 : decode cX9_numberToken 65 = .ok (.iconst 4, 1) := by decide +kernel
theorem dX9_numberToken_66 : decode cX9_numberToken 66 = .ok (.if_icmp .le 9, 3) := by decide +kernel
theorem dX9_numberToken_69 : decode cX9_numberToken 69 = .ok (.sipush 20260, 3) := by decide +kernel
theorem dX9_numberToken_72 : decode cX9_numberToken 72 = .ok (.goto 4, 3) := by decide +kernel
theorem dX9_numberToken_75 : decode cX9_numberToken 75 = .ok (.iload_n 2, 1) := by decide +kernel
theorem dX9_numberToken_76 : decode cX9_numberToken 76 = .ok (.ireturn, 1) := by decide +kernel
theorem dX9_wordToken_0 : decode cX9_wordToken 0 = .ok (.aload_n 0, 1) := by decide +kernel
theorem dX9_wordToken_1 : decode cX9_wordToken 1 = .ok (.getfield 25, 3) := by decide +kernel
theorem dX9_wordToken_4 : decode cX9_wordToken 4 = .ok (.aload_n 0, 1) := by decide +kernel
theorem dX9_wordToken_5 : decode cX9_wordToken 5 = .ok (.getfield 11, 3) := by decide +kernel
theorem dX9_wordToken_8 : decode cX9_wordToken 8 = .ok (.if_icmp .ge 31, 3) := by decide +kernel
theorem dX9_wordToken_11 : decode cX9_wordToken 11 = .ok (.aload_n 0, 1) := by decide +kernel
theorem dX9_wordToken_12 : decode cX9_wordToken 12 = .ok (.getfield 15, 3) := by decide +kernel
theorem dX9_wordToken_15 : decode cX9_wordToken 15 = .ok (.aload_n 0, 1) := by decide +kernel
theorem dX9_wordToken_16 : decode cX9_wordToken 16 = .ok (.getfield 25, 3) := by decide +kernel
theorem dX9_wordToken_19 : decode cX9_wordToken 19 = .ok (.iaload, 1) := by decide +kernel
theorem dX9_wordToken_20 : decode cX9_wordToken 20 = .ok (.invokestatic 35, 3) := by decide +kernel
theorem dX9_wordToken_23 : decode cX9_wordToken 23 = .ok (.ifCond .eq 16, 3) := by decide +kernel
theorem dX9_wordToken_26 : decode cX9_wordToken 26 = .ok (.aload_n 0, 1) := by decide +kernel
theorem dX9_wordToken_27 : decode cX9_wordToken 27 = .ok (.dup, 1) := by decide +kernel
theorem dX9_wordToken_28 : decode cX9_wordToken 28 = .ok (.getfield 25, 3) := by decide +kernel
theorem dX9_wordToken_31 : decode cX9_wordToken 31 = .ok (.iconst 1, 1) := by decide +kernel
theorem dX9_wordToken_32 : decode cX9_wordToken 32 = .ok (.iadd, 1) := by decide +kernel
theorem dX9_wordToken_33 : decode cX9_wordToken 33 = .ok (.putfield 25, 3) := by decide +kernel
theorem dX9_wordToken_36 : decode cX9_wordToken 36 = .ok (.goto (-36), 3) := by decide +kernel
theorem dX9_wordToken_39 : decode cX9_wordToken 39 = .ok (.aload_n 0, 1) := by decide +kernel
theorem dX9_wordToken_40 : decode cX9_wordToken 40 = .ok (.iload_n 1, 1) := by decide +kernel
theorem dX9_wordToken_41 : decode cX9_wordToken 41 = .ok (.ldc 51, 2) := by decide +kernel
theorem dX9_wordToken_43 : decode cX9_wordToken 43 = .ok (.invokevirtual 53, 3) := by decide +kernel
theorem dX9_wordToken_46 : decode cX9_wordToken 46 = .ok (.ifCond .eq 7, 3) := by decide +kernel
theorem dX9_wordToken_49 : decode cX9_wordToken 49 = .ok (.sipush 10000, 3) := by decide +kernel
theorem dX9_wordToken_52 : decode cX9_wordToken 52 = .ok (.ireturn, 1) := by decide +kernel
theorem dX9_wordToken_53 : decode cX9_wordToken 53 = .ok (.aload_n 0, 1) := by decide +kernel
theorem dX9_wordToken_54 : decode cX9_wordToken 54 = .ok (.iload_n 1, 1) := by decide +kernel
theorem dX9_wordToken_55 : decode cX9_wordToken 55 = .ok (.ldc 59, 2) := by decide +kernel
theorem dX9_wordToken_57 : decode cX9_wordToken 57 = .ok (.invokevirtual 53, 3) := by decide +kernel
theorem dX9_wordToken_60 : decode cX9_wordToken 60 = .ok (.ifCond .eq 7, 3) := by decide +kernel
theorem dX9_wordToken_63 : decode cX9_wordToken 63 = .ok (.sipush 10001, 3) := by decide +kernel
theorem dX9_wordToken_66 : decode cX9_wordToken 66 = .ok (.ireturn, 1) := by decide +kernel
theorem dX9_wordToken_67 : decode cX9_wordToken 67 = .ok (.aload_n 0, 1) := by decide +kernel
theorem dX9_wordToken_68 : decode cX9_wordToken 68 = .ok (.iload_n 1, 1) := by decide +kernel
theorem dX9_wordToken_69 : decode cX9_wordToken 69 = .ok (.ldc 61, 2) := by decide +kernel
theorem dX9_wordToken_71 : decode cX9_wordToken 71 = .ok (.invokevirtual 53, 3) := by decide +kernel
theorem dX9_wordToken_74 : decode cX9_wordToken 74 = .ok (.ifCond .eq 7, 3) := by decide +kernel
theorem dX9_wordToken_77 : decode cX9_wordToken 77 = .ok (.sipush 10002, 3) := by decide +kernel
theorem dX9_wordToken_80 : decode cX9_wordToken 80 = .ok (.ireturn, 1) := by decide +kernel
theorem dX9_wordToken_81 : decode cX9_wordToken 81 = .ok (.aload_n 0, 1) := by decide +kernel
theorem dX9_wordToken_82 : decode cX9_wordToken 82 = .ok (.iload_n 1, 1) := by decide +kernel
theorem dX9_wordToken_83 : decode cX9_wordToken 83 = .ok (.ldc 63, 2) := by decide +kernel
theorem dX9_wordToken_85 : decode cX9_wordToken 85 = .ok (.invokevirtual 53, 3) := by decide +kernel
theorem dX9_wordToken_88 : decode cX9_wordToken 88 = .ok (.ifCond .eq 7, 3) := by decide +kernel
theorem dX9_wordToken_91 : decode cX9_wordToken 91 = .ok (.sipush 10003, 3) := by decide +kernel
theorem dX9_wordToken_94 : decode cX9_wordToken 94 = .ok (.ireturn, 1) := by decide +kernel
theorem dX9_wordToken_95 : decode cX9_wordToken 95 = .ok (.aload_n 0, 1) := by decide +kernel
theorem dX9_wordToken_96 : decode cX9_wordToken 96 = .ok (.iload_n 1, 1) := by decide +kernel
theorem dX9_wordToken_97 : decode cX9_wordToken 97 = .ok (.ldc 65, 2) := by decide +kernel
theorem dX9_wordToken_99 : decode cX9_wordToken 99 = .ok (.invokevirtual 53, 3) := by decide +kernel
theorem dX9_wordToken_102 : decode cX9_wordToken 102 = .ok (.ifCond .eq 7, 3) := by decide +kernel
theorem dX9_wordToken_105 : decode cX9_wordToken 105 = .ok (.sipush 10004, 3) := by decide +kernel
theorem dX9_wordToken_108 : decode cX9_wordToken 108 = .ok (.ireturn, 1) := by decide +kernel
theorem dX9_wordToken_109 : decode cX9_wordToken 109 = .ok (.aload_n 0, 1) := by decide +kernel
theorem dX9_wordToken_110 : decode cX9_wordToken 110 = .ok (.iload_n 1, 1) := by decide +kernel
theorem dX9_wordToken_111 : decode cX9_wordToken 111 = .ok (.ldc 67, 2) := by decide +kernel
theorem dX9_wordToken_113 : decode cX9_wordToken 113 = .ok (.invokevirtual 53, 3) := by decide +kernel
theorem dX9_wordToken_116 : decode cX9_wordToken 116 = .ok (.ifCond .eq 7, 3) := by decide +kernel
theorem dX9_wordToken_119 : decode cX9_wordToken 119 = .ok (.sipush 10005, 3) := by decide +kernel
theorem dX9_wordToken_122 : decode cX9_wordToken 122 = .ok (.ireturn, 1) := by decide +kernel
theorem dX9_wordToken_123 : decode cX9_wordToken 123 = .ok (.aload_n 0, 1) := by decide +kernel
theorem dX9_wordToken_124 : decode cX9_wordToken 124 = .ok (.iload_n 1, 1) := by decide +kernel
theorem dX9_wordToken_125 : decode cX9_wordToken 125 = .ok (.ldc 69, 2) := by decide +kernel
theorem dX9_wordToken_127 : decode cX9_wordToken 127 = .ok (.invokevirtual 53, 3) := by decide +kernel
theorem dX9_wordToken_130 : decode cX9_wordToken 130 = .ok (.ifCond .eq 7, 3) := by decide +kernel
theorem dX9_wordToken_133 : decode cX9_wordToken 133 = .ok (.sipush 20261, 3) := by decide +kernel
theorem dX9_wordToken_136 : decode cX9_wordToken 136 = .ok (.ireturn, 1) := by decide +kernel
theorem dX9_wordToken_137 : decode cX9_wordToken 137 = .ok (.aload_n 0, 1) := by decide +kernel
theorem dX9_wordToken_138 : decode cX9_wordToken 138 = .ok (.iload_n 1, 1) := by decide +kernel
theorem dX9_wordToken_139 : decode cX9_wordToken 139 = .ok (.ldc 73, 2) := by decide +kernel
theorem dX9_wordToken_141 : decode cX9_wordToken 141 = .ok (.invokevirtual 53, 3) := by decide +kernel
theorem dX9_wordToken_144 : decode cX9_wordToken 144 = .ok (.ifCond .eq 7, 3) := by decide +kernel
theorem dX9_wordToken_147 : decode cX9_wordToken 147 = .ok (.sipush 20262, 3) := by decide +kernel
theorem dX9_wordToken_150 : decode cX9_wordToken 150 = .ok (.ireturn, 1) := by decide +kernel
theorem dX9_wordToken_151 : decode cX9_wordToken 151 = .ok (.aload_n 0, 1) := by decide +kernel
theorem dX9_wordToken_152 : decode cX9_wordToken 152 = .ok (.iload_n 1, 1) := by decide +kernel
theorem dX9_wordToken_153 : decode cX9_wordToken 153 = .ok (.ldc 75, 2) := by decide +kernel
theorem dX9_wordToken_155 : decode cX9_wordToken 155 = .ok (.invokevirtual 53, 3) := by decide +kernel
theorem dX9_wordToken_158 : decode cX9_wordToken 158 = .ok (.ifCond .eq 7, 3) := by decide +kernel
theorem dX9_wordToken_161 : decode cX9_wordToken 161 = .ok (.sipush 20263, 3) := by decide +kernel
theorem dX9_wordToken_164 : decode cX9_wordToken 164 = .ok (.ireturn, 1) := by decide +kernel
theorem dX9_wordToken_165 : decode cX9_wordToken 165 = .ok (.aload_n 0, 1) := by decide +kernel
theorem dX9_wordToken_166 : decode cX9_wordToken 166 = .ok (.iload_n 1, 1) := by decide +kernel
theorem dX9_wordToken_167 : decode cX9_wordToken 167 = .ok (.ldc 77, 2) := by decide +kernel
theorem dX9_wordToken_169 : decode cX9_wordToken 169 = .ok (.invokevirtual 53, 3) := by decide +kernel
theorem dX9_wordToken_172 : decode cX9_wordToken 172 = .ok (.ifCond .eq 7, 3) := by decide +kernel
theorem dX9_wordToken_175 : decode cX9_wordToken 175 = .ok (.sipush 20256, 3) := by decide +kernel
theorem dX9_wordToken_178 : decode cX9_wordToken 178 = .ok (.ireturn, 1) := by decide +kernel
theorem dX9_wordToken_179 : decode cX9_wordToken 179 = .ok (.aload_n 0, 1) := by decide +kernel
theorem dX9_wordToken_180 : decode cX9_wordToken 180 = .ok (.iload_n 1, 1) := by decide +kernel
theorem dX9_wordToken_181 : decode cX9_wordToken 181 = .ok (.ldc 79, 2) := by decide +kernel
theorem dX9_wordToken_183 : decode cX9_wordToken 183 = .ok (.invokevirtual 53, 3) := by decide +kernel
theorem dX9_wordToken_186 : decode cX9_wordToken 186 = .ok (.ifCond .eq 7, 3) := by decide +kernel
theorem dX9_wordToken_189 : decode cX9_wordToken 189 = .ok (.sipush 20257, 3) := by decide +kernel
theorem dX9_wordToken_192 : decode cX9_wordToken 192 = .ok (.ireturn, 1) := by decide +kernel
theorem dX9_wordToken_193 : decode cX9_wordToken 193 = .ok (.aload_n 0, 1) := by decide +kernel
theorem dX9_wordToken_194 : decode cX9_wordToken 194 = .ok (.iload_n 1, 1) := by decide +kernel
theorem dX9_wordToken_195 : decode cX9_wordToken 195 = .ok (.ldc 81, 2) := by decide +kernel
theorem dX9_wordToken_197 : decode cX9_wordToken 197 = .ok (.invokevirtual 53, 3) := by decide +kernel
theorem dX9_wordToken_200 : decode cX9_wordToken 200 = .ok (.ifCond .eq 9, 3) := by decide +kernel
theorem dX9_wordToken_203 : decode cX9_wordToken 203 = .ok (.sipush 20258, 3) := by decide +kernel
theorem dX9_wordToken_206 : decode cX9_wordToken 206 = .ok (.goto 6, 3) := by decide +kernel
theorem dX9_wordToken_209 : decode cX9_wordToken 209 = .ok (.sipush 20260, 3) := by decide +kernel
theorem dX9_wordToken_212 : decode cX9_wordToken 212 = .ok (.ireturn, 1) := by decide +kernel
theorem dX9_spells_0 : decode cX9_spells 0 = .ok (.aload_n 0, 1) := by decide +kernel
theorem dX9_spells_1 : decode cX9_spells 1 = .ok (.getfield 25, 3) := by decide +kernel
theorem dX9_spells_4 : decode cX9_spells 4 = .ok (.iload_n 1, 1) := by decide +kernel
theorem dX9_spells_5 : decode cX9_spells 5 = .ok (.isub, 1) := by decide +kernel
theorem dX9_spells_6 : decode cX9_spells 6 = .ok (.aload_n 2, 1) := by decide +kernel
theorem dX9_spells_7 : decode cX9_spells 7 = .ok (.invokevirtual 83, 3) := by decide +kernel
theorem dX9_spells_10 : decode cX9_spells 10 = .ok (.if_icmp .eq 5, 3) := by decide +kernel
theorem dX9_spells_13 : decode cX9_spells 13 = .ok (.iconst 0, 1) := by decide +kernel
theorem dX9_spells_14 : decode cX9_spells 14 = .ok (.ireturn, 1) := by decide +kernel
theorem dX9_spells_15 : decode cX9_spells 15 = .ok (.iconst 0, 1) := by decide +kernel
theorem dX9_spells_16 : decode cX9_spells 16 = .ok (.istore_n 3, 1) := by decide +kernel
theorem dX9_spells_17 : decode cX9_spells 17 = .ok (.iload_n 3, 1) := by decide +kernel
theorem dX9_spells_18 : decode cX9_spells 18 = .ok (.aload_n 2, 1) := by decide +kernel
theorem dX9_spells_19 : decode cX9_spells 19 = .ok (.invokevirtual 83, 3) := by decide +kernel
theorem dX9_spells_22 : decode cX9_spells 22 = .ok (.if_icmp .ge 27, 3) := by decide +kernel
theorem dX9_spells_25 : decode cX9_spells 25 = .ok (.aload_n 0, 1) := by decide +kernel
theorem dX9_spells_26 : decode cX9_spells 26 = .ok (.getfield 15, 3) := by decide +kernel
theorem dX9_spells_29 : decode cX9_spells 29 = .ok (.iload_n 1, 1) := by decide +kernel
theorem dX9_spells_30 : decode cX9_spells 30 = .ok (.iload_n 3, 1) := by decide +kernel
theorem dX9_spells_31 : decode cX9_spells 31 = .ok (.iadd, 1) := by decide +kernel
theorem dX9_spells_32 : decode cX9_spells 32 = .ok (.iaload, 1) := by decide +kernel
theorem dX9_spells_33 : decode cX9_spells 33 = .ok (.aload_n 2, 1) := by decide +kernel
theorem dX9_spells_34 : decode cX9_spells 34 = .ok (.iload_n 3, 1) := by decide +kernel
theorem dX9_spells_35 : decode cX9_spells 35 = .ok (.invokevirtual 89, 3) := by decide +kernel
theorem dX9_spells_38 : decode cX9_spells 38 = .ok (.if_icmp .eq 5, 3) := by decide +kernel
theorem dX9_spells_41 : decode cX9_spells 41 = .ok (.iconst 0, 1) := by decide +kernel
theorem dX9_spells_42 : decode cX9_spells 42 = .ok (.ireturn, 1) := by decide +kernel
theorem dX9_spells_43 : decode cX9_spells 43 = .ok (.iinc 3 1, 3) := by decide +kernel
theorem dX9_spells_46 : decode cX9_spells 46 = .ok (.goto (-29), 3) := by decide +kernel
theorem dX9_spells_49 : decode cX9_spells 49 = .ok (.iconst 1, 1) := by decide +kernel
theorem dX9_spells_50 : decode cX9_spells 50 = .ok (.ireturn, 1) := by decide +kernel
theorem dX9_isSmall_0 : decode cX9_isSmall 0 = .ok (.iload_n 0, 1) := by decide +kernel
theorem dX9_isSmall_1 : decode cX9_isSmall 1 = .ok (.bipush 97, 2) := by decide +kernel
theorem dX9_isSmall_3 : decode cX9_isSmall 3 = .ok (.if_icmp .lt 13, 3) := by decide +kernel
theorem dX9_isSmall_6 : decode cX9_isSmall 6 = .ok (.iload_n 0, 1) := by decide +kernel
theorem dX9_isSmall_7 : decode cX9_isSmall 7 = .ok (.bipush 122, 2) := by decide +kernel
theorem dX9_isSmall_9 : decode cX9_isSmall 9 = .ok (.if_icmp .gt 7, 3) := by decide +kernel
theorem dX9_isSmall_12 : decode cX9_isSmall 12 = .ok (.iconst 1, 1) := by decide +kernel
theorem dX9_isSmall_13 : decode cX9_isSmall 13 = .ok (.goto 4, 3) := by decide +kernel
theorem dX9_isSmall_16 : decode cX9_isSmall 16 = .ok (.iconst 0, 1) := by decide +kernel
theorem dX9_isSmall_17 : decode cX9_isSmall 17 = .ok (.ireturn, 1) := by decide +kernel
theorem dX9_isDigit_0 : decode cX9_isDigit 0 = .ok (.iload_n 0, 1) := by decide +kernel
theorem dX9_isDigit_1 : decode cX9_isDigit 1 = .ok (.bipush 48, 2) := by decide +kernel
theorem dX9_isDigit_3 : decode cX9_isDigit 3 = .ok (.if_icmp .lt 13, 3) := by decide +kernel
theorem dX9_isDigit_6 : decode cX9_isDigit 6 = .ok (.iload_n 0, 1) := by decide +kernel
theorem dX9_isDigit_7 : decode cX9_isDigit 7 = .ok (.bipush 57, 2) := by decide +kernel
theorem dX9_isDigit_9 : decode cX9_isDigit 9 = .ok (.if_icmp .gt 7, 3) := by decide +kernel
theorem dX9_isDigit_12 : decode cX9_isDigit 12 = .ok (.iconst 1, 1) := by decide +kernel
theorem dX9_isDigit_13 : decode cX9_isDigit 13 = .ok (.goto 4, 3) := by decide +kernel
theorem dX9_isDigit_16 : decode cX9_isDigit 16 = .ok (.iconst 0, 1) := by decide +kernel
theorem dX9_isDigit_17 : decode cX9_isDigit 17 = .ok (.ireturn, 1) := by decide +kernel
theorem dX9_isSign_0 : decode cX9_isSign 0 = .ok (.iload_n 0, 1) := by decide +kernel
theorem dX9_isSign_1 : decode cX9_isSign 1 = .ok (.tableswitch 105 40 61 #[103, 103, 103, 103, 105, 103, 105, 105, 105, 105, 105, 105, 105, 105, 105, 105, 105, 105, 105, 103, 103, 103], 103) := by decide +kernel
theorem dX9_isSign_104 : decode cX9_isSign 104 = .ok (.iconst 1, 1) := by decide +kernel
theorem dX9_isSign_105 : decode cX9_isSign 105 = .ok (.ireturn, 1) := by decide +kernel
theorem dX9_isSign_106 : decode cX9_isSign 106 = .ok (.iconst 0, 1) := by decide +kernel
theorem dX9_isSign_107 : decode cX9_isSign 107 = .ok (.ireturn, 1) := by decide +kernel
theorem dX10_init_0 : decode cX10_init 0 = .ok (.aload_n 0, 1) := by decide +kernel
theorem dX10_init_1 : decode cX10_init 1 = .ok (.invokespecial 1, 3) := by decide +kernel
theorem dX10_init_4 : decode cX10_init 4 = .ok (.aload_n 0, 1) := by decide +kernel
theorem dX10_init_5 : decode cX10_init 5 = .ok (.new 7, 3) := by decide +kernel
theorem dX10_init_8 : decode cX10_init 8 = .ok (.dup, 1) := by decide +kernel
theorem dX10_init_9 : decode cX10_init 9 = .ok (.invokespecial 9, 3) := by decide +kernel
theorem dX10_init_12 : decode cX10_init 12 = .ok (.putfield 10, 3) := by decide +kernel
theorem dX10_init_15 : decode cX10_init 15 = .ok (.aload_n 0, 1) := by decide +kernel
theorem dX10_init_16 : decode cX10_init 16 = .ok (.new 16, 3) := by decide +kernel
theorem dX10_init_19 : decode cX10_init 19 = .ok (.dup, 1) := by decide +kernel
theorem dX10_init_20 : decode cX10_init 20 = .ok (.aload_n 0, 1) := by decide +kernel
theorem dX10_init_21 : decode cX10_init 21 = .ok (.getfield 10, 3) := by decide +kernel
theorem dX10_init_24 : decode cX10_init 24 = .ok (.invokespecial 18, 3) := by decide +kernel
theorem dX10_init_27 : decode cX10_init 27 = .ok (.putfield 21, 3) := by decide +kernel
theorem dX10_init_30 : decode cX10_init 30 = .ok (.aload_n 0, 1) := by decide +kernel
theorem dX10_init_31 : decode cX10_init 31 = .ok (.new 25, 3) := by decide +kernel
theorem dX10_init_34 : decode cX10_init 34 = .ok (.dup, 1) := by decide +kernel
theorem dX10_init_35 : decode cX10_init 35 = .ok (.invokespecial 27, 3) := by decide +kernel
theorem dX10_init_38 : decode cX10_init 38 = .ok (.putfield 28, 3) := by decide +kernel
theorem dX10_init_41 : decode cX10_init 41 = .ok (.aload_n 0, 1) := by decide +kernel
theorem dX10_init_42 : decode cX10_init 42 = .ok (.new 32, 3) := by decide +kernel
theorem dX10_init_45 : decode cX10_init 45 = .ok (.dup, 1) := by decide +kernel
theorem dX10_init_46 : decode cX10_init 46 = .ok (.invokespecial 34, 3) := by decide +kernel
theorem dX10_init_49 : decode cX10_init 49 = .ok (.putfield 35, 3) := by decide +kernel
theorem dX10_init_52 : decode cX10_init 52 = .ok (.aload_n 0, 1) := by decide +kernel
theorem dX10_init_53 : decode cX10_init 53 = .ok (.new 39, 3) := by decide +kernel
theorem dX10_init_56 : decode cX10_init 56 = .ok (.dup, 1) := by decide +kernel
theorem dX10_init_57 : decode cX10_init 57 = .ok (.invokespecial 41, 3) := by decide +kernel
theorem dX10_init_60 : decode cX10_init 60 = .ok (.putfield 42, 3) := by decide +kernel
theorem dX10_init_63 : decode cX10_init 63 = .ok (.aload_n 0, 1) := by decide +kernel
theorem dX10_init_64 : decode cX10_init 64 = .ok (.iconst 4, 1) := by decide +kernel
theorem dX10_init_65 : decode cX10_init 65 = .ok (.anewarray 46, 3) := by decide +kernel
theorem dX10_init_68 : decode cX10_init 68 = .ok (.putfield 48, 3) := by decide +kernel
theorem dX10_init_71 : decode cX10_init 71 = .ok (.iconst 0, 1) := by decide +kernel
theorem dX10_init_72 : decode cX10_init 72 = .ok (.istore_n 1, 1) := by decide +kernel
theorem dX10_init_73 : decode cX10_init 73 = .ok (.iload_n 1, 1) := by decide +kernel
theorem dX10_init_74 : decode cX10_init 74 = .ok (.iconst 4, 1) := by decide +kernel
theorem dX10_init_75 : decode cX10_init 75 = .ok (.if_icmp .ge 22, 3) := by decide +kernel
theorem dX10_init_78 : decode cX10_init 78 = .ok (.aload_n 0, 1) := by decide +kernel
theorem dX10_init_79 : decode cX10_init 79 = .ok (.getfield 48, 3) := by decide +kernel
theorem dX10_init_82 : decode cX10_init 82 = .ok (.iload_n 1, 1) := by decide +kernel
theorem dX10_init_83 : decode cX10_init 83 = .ok (.new 46, 3) := by decide +kernel
theorem dX10_init_86 : decode cX10_init 86 = .ok (.dup, 1) := by decide +kernel
theorem dX10_init_87 : decode cX10_init 87 = .ok (.invokespecial 52, 3) := by decide +kernel
theorem dX10_init_90 : decode cX10_init 90 = .ok (.aastore, 1) := by decide +kernel
theorem dX10_init_91 : decode cX10_init 91 = .ok (.iinc 1 1, 3) := by decide +kernel
theorem dX10_init_94 : decode cX10_init 94 = .ok (.goto (-21), 3) := by decide +kernel
theorem dX10_init_97 : decode cX10_init 97 = .ok (.iconst 0, 1) := by decide +kernel
theorem dX10_init_98 : decode cX10_init 98 = .ok (.istore_n 1, 1) := by decide +kernel
theorem dX10_init_99 : decode cX10_init 99 = .ok (.iload_n 1, 1) := by decide +kernel
theorem dX10_init_100 : decode cX10_init 100 = .ok (.ldc 53, 2) := by decide +kernel
theorem dX10_init_102 : decode cX10_init 102 = .ok (.invokevirtual 55, 3) := by decide +kernel
theorem dX10_init_105 : decode cX10_init 105 = .ok (.if_icmp .ge 23, 3) := by decide +kernel
theorem dX10_init_108 : decode cX10_init 108 = .ok (.aload_n 0, 1) := by decide +kernel
theorem dX10_init_109 : decode cX10_init 109 = .ok (.getfield 28, 3) := by decide +kernel
theorem dX10_init_112 : decode cX10_init 112 = .ok (.ldc 53, 2) := by decide +kernel
theorem dX10_init_114 : decode cX10_init 114 = .ok (.iload_n 1, 1) := by decide +kernel
theorem dX10_init_115 : decode cX10_init 115 = .ok (.invokevirtual 61, 3) := by decide +kernel
theorem dX10_init_118 : decode cX10_init 118 = .ok (.invokevirtual 65, 3) := by decide +kernel
theorem dX10_init_121 : decode cX10_init 121 = .ok (.pop, 1) := by decide +kernel
theorem dX10_init_122 : decode cX10_init 122 = .ok (.iinc 1 1, 3) := by decide +kernel
theorem dX10_init_125 : decode cX10_init 125 = .ok (.goto (-26), 3) := by decide +kernel
theorem dX10_init_128 : decode cX10_init 128 = .ok (.new 69, 3) := by decide +kernel
theorem dX10_init_131 : decode cX10_init 131 = .ok (.dup, 1) := by decide +kernel
theorem dX10_init_132 : decode cX10_init 132 = .ok (.aload_n 0, 1) := by decide +kernel
theorem dX10_init_133 : decode cX10_init 133 = .ok (.getfield 28, 3) := by decide +kernel
theorem dX10_init_136 : decode cX10_init 136 = .ok (.aload_n 0, 1) := by decide +kernel
theorem dX10_init_137 : decode cX10_init 137 = .ok (.getfield 10, 3) := by decide +kernel
theorem dX10_init_140 : decode cX10_init 140 = .ok (.getfield 71, 3) := by decide +kernel
theorem dX10_init_143 : decode cX10_init 143 = .ok (.iconst 0, 1) := by decide +kernel
theorem dX10_init_144 : decode cX10_init 144 = .ok (.aaload, 1) := by decide +kernel
theorem dX10_init_145 : decode cX10_init 145 = .ok (.invokespecial 75, 3) := by decide +kernel
theorem dX10_init_148 : decode cX10_init 148 = .ok (.invokevirtual 78, 3) := by decide +kernel
theorem dX10_init_151 : decode cX10_init 151 = .ok (.pop, 1) := by decide +kernel
theorem dX10_init_152 : decode cX10_init 152 = .ok (.aload_n 0, 1) := by decide +kernel
theorem dX10_init_153 : decode cX10_init 153 = .ok (.getfield 10, 3) := by decide +kernel
theorem dX10_init_156 : decode cX10_init 156 = .ok (.iconst 1, 1) := by decide +kernel
theorem dX10_init_157 : decode cX10_init 157 = .ok (.putfield 81, 3) := by decide +kernel
theorem dX10_init_160 : decode cX10_init 160 = .ok (.return_, 1) := by decide +kernel
theorem dX10_person_0 : decode cX10_person 0 = .ok (.iconst 0, 1) := by decide +kernel
theorem dX10_person_1 : decode cX10_person 1 = .ok (.iload_n 1, 1) := by decide +kernel
theorem dX10_person_2 : decode cX10_person 2 = .ok (.invokestatic 85, 3) := by decide +kernel
theorem dX10_person_5 : decode cX10_person 5 = .ok (.ifCond .eq 41, 3) := by decide +kernel
theorem dX10_person_8 : decode cX10_person 8 = .ok (.iconst 1, 1) := by decide +kernel
theorem dX10_person_9 : decode cX10_person 9 = .ok (.iload_n 2, 1) := by decide +kernel
theorem dX10_person_10 : decode cX10_person 10 = .ok (.invokestatic 85, 3) := by decide +kernel
theorem dX10_person_13 : decode cX10_person 13 = .ok (.ifCond .eq 33, 3) := by decide +kernel
theorem dX10_person_16 : decode cX10_person 16 = .ok (.iload_n 3, 1) := by decide +kernel
theorem dX10_person_17 : decode cX10_person 17 = .ok (.ifCond .lt 29, 3) := by decide +kernel
theorem dX10_person_20 : decode cX10_person 20 = .ok (.iconst 2, 1) := by decide +kernel
theorem dX10_person_21 : decode cX10_person 21 = .ok (.iload_n 3, 1) := by decide +kernel
theorem dX10_person_22 : decode cX10_person 22 = .ok (.bipush 10, 2) := by decide +kernel
theorem dX10_person_24 : decode cX10_person 24 = .ok (.idiv, 1) := by decide +kernel
theorem dX10_person_25 : decode cX10_person 25 = .ok (.invokestatic 85, 3) := by decide +kernel
theorem dX10_person_28 : decode cX10_person 28 = .ok (.ifCond .eq 18, 3) := by decide +kernel
theorem dX10_person_31 : decode cX10_person 31 = .ok (.iconst 3, 1) := by decide +kernel
theorem dX10_person_32 : decode cX10_person 32 = .ok (.iload_n 3, 1) := by decide +kernel
theorem dX10_person_33 : decode cX10_person 33 = .ok (.bipush 10, 2) := by decide +kernel
theorem dX10_person_35 : decode cX10_person 35 = .ok (.irem, 1) := by decide +kernel
theorem dX10_person_36 : decode cX10_person 36 = .ok (.invokestatic 85, 3) := by decide +kernel
theorem dX10_person_39 : decode cX10_person 39 = .ok (.ifCond .eq 7, 3) := by decide +kernel
theorem dX10_person_42 : decode cX10_person 42 = .ok (.iconst 1, 1) := by decide +kernel
theorem dX10_person_43 : decode cX10_person 43 = .ok (.goto 4, 3) := by decide +kernel
theorem dX10_person_46 : decode cX10_person 46 = .ok (.iconst 0, 1) := by decide +kernel
theorem dX10_person_47 : decode cX10_person 47 = .ok (.istore 4, 2) := by decide +kernel
theorem dX10_person_49 : decode cX10_person 49 = .ok (.iload 4, 2) := by decide +kernel
theorem dX10_person_51 : decode cX10_person 51 = .ok (.ifCond .ne 6, 3) := by decide +kernel
theorem dX10_person_54 : decode cX10_person 54 = .ok (.bipush (-2), 2) := by decide +kernel
theorem dX10_person_56 : decode cX10_person 56 = .ok (.ireturn, 1) := by decide +kernel
theorem dX10_person_57 : decode cX10_person 57 = .ok (.aload_n 0, 1) := by decide +kernel
theorem dX10_person_58 : decode cX10_person 58 = .ok (.getfield 10, 3) := by decide +kernel
theorem dX10_person_61 : decode cX10_person 61 = .ok (.iload_n 1, 1) := by decide +kernel
theorem dX10_person_62 : decode cX10_person 62 = .ok (.iload_n 2, 1) := by decide +kernel
theorem dX10_person_63 : decode cX10_person 63 = .ok (.iload_n 3, 1) := by decide +kernel
theorem dX10_person_64 : decode cX10_person 64 = .ok (.bipush 10, 2) := by decide +kernel
theorem dX10_person_66 : decode cX10_person 66 = .ok (.idiv, 1) := by decide +kernel
theorem dX10_person_67 : decode cX10_person 67 = .ok (.iload_n 3, 1) := by decide +kernel
theorem dX10_person_68 : decode cX10_person 68 = .ok (.bipush 10, 2) := by decide +kernel
theorem dX10_person_70 : decode cX10_person 70 = .ok (.irem, 1) := by decide +kernel
theorem dX10_person_71 : decode cX10_person 71 = .ok (.invokevirtual 89, 3) := by decide +kernel
theorem dX10_person_74 : decode cX10_person 74 = .ok (.istore 5, 2) := by decide +kernel
theorem dX10_person_76 : decode cX10_person 76 = .ok (.aload_n 0, 1) := by decide +kernel
theorem dX10_person_77 : decode cX10_person 77 = .ok (.getfield 21, 3) := by decide +kernel
theorem dX10_person_80 : decode cX10_person 80 = .ok (.iconst 1, 1) := by decide +kernel
theorem dX10_person_81 : decode cX10_person 81 = .ok (.putfield 93, 3) := by decide +kernel
theorem dX10_person_84 : decode cX10_person 84 = .ok (.iload 5, 2) := by decide +kernel
theorem dX10_person_86 : decode cX10_person 86 = .ok (.ireturn, 1) := by decide +kernel
theorem dX10_note_0 : decode cX10_note 0 = .ok (.aload_n 0, 1) := by decide +kernel
theorem dX10_note_1 : decode cX10_note 1 = .ok (.iload_n 1, 1) := by decide +kernel
theorem dX10_note_2 : decode cX10_note 2 = .ok (.iload_n 2, 1) := by decide +kernel
theorem dX10_note_3 : decode cX10_note 3 = .ok (.iload_n 3, 1) := by decide +kernel
theorem dX10_note_4 : decode cX10_note 4 = .ok (.invokevirtual 97, 3) := by decide +kernel
theorem dX10_note_7 : decode cX10_note 7 = .ok (.istore 4, 2) := by decide +kernel
theorem dX10_note_9 : decode cX10_note 9 = .ok (.aload_n 0, 1) := by decide +kernel
theorem dX10_note_10 : decode cX10_note 10 = .ok (.getfield 21, 3) := by decide +kernel
theorem dX10_note_13 : decode cX10_note 13 = .ok (.iconst 1, 1) := by decide +kernel
theorem dX10_note_14 : decode cX10_note 14 = .ok (.putfield 93, 3) := by decide +kernel
theorem dX10_note_17 : decode cX10_note 17 = .ok (.iload 4, 2) := by decide +kernel
theorem dX10_note_19 : decode cX10_note 19 = .ok (.ireturn, 1) := by decide +kernel
theorem dX10_set_0 : decode cX10_set 0 = .ok (.iload_n 1, 1) := by decide +kernel
theorem dX10_set_1 : decode cX10_set 1 = .ok (.iconst 4, 1) := by decide +kernel
theorem dX10_set_2 : decode cX10_set 2 = .ok (.if_icmp .ne 10, 3) := by decide +kernel
theorem dX10_set_5 : decode cX10_set 5 = .ok (.aload_n 0, 1) := by decide +kernel
theorem dX10_set_6 : decode cX10_set 6 = .ok (.iload_n 2, 1) := by decide +kernel
theorem dX10_set_7 : decode cX10_set 7 = .ok (.iload_n 3, 1) := by decide +kernel
theorem dX10_set_8 : decode cX10_set 8 = .ok (.invokevirtual 101, 3) := by decide +kernel
theorem dX10_set_11 : decode cX10_set 11 = .ok (.ireturn, 1) := by decide +kernel
theorem dX10_set_12 : decode cX10_set 12 = .ok (.iload_n 1, 1) := by decide +kernel
theorem dX10_set_13 : decode cX10_set 13 = .ok (.ifCond .lt 27, 3) := by decide +kernel
theorem dX10_set_16 : decode cX10_set 16 = .ok (.iload_n 1, 1) := by decide +kernel
theorem dX10_set_17 : decode cX10_set 17 = .ok (.iconst 3, 1) := by decide +kernel
theorem dX10_set_18 : decode cX10_set 18 = .ok (.if_icmp .gt 22, 3) := by decide +kernel
theorem dX10_set_21 : decode cX10_set 21 = .ok (.aload_n 0, 1) := by decide +kernel
theorem dX10_set_22 : decode cX10_set 22 = .ok (.getfield 10, 3) := by decide +kernel
theorem dX10_set_25 : decode cX10_set 25 = .ok (.iload_n 2, 1) := by decide +kernel
theorem dX10_set_26 : decode cX10_set 26 = .ok (.invokevirtual 105, 3) := by decide +kernel
theorem dX10_set_29 : decode cX10_set 29 = .ok (.ifCond .eq 11, 3) := by decide +kernel
theorem dX10_set_32 : decode cX10_set 32 = .ok (.iload_n 1, 1) := by decide +kernel
theorem dX10_set_33 : decode cX10_set 33 = .ok (.iload_n 3, 1) := by decide +kernel
theorem dX10_set_34 : decode cX10_set 34 = .ok (.invokestatic 85, 3) := by decide +kernel
theorem dX10_set_37 : decode cX10_set 37 = .ok (.ifCond .ne 6, 3) := by decide +kernel
theorem dX10_set_40 : decode cX10_set 40 = .ok (.bipush (-2), 2) := by decide +kernel
theorem dX10_set_42 : decode cX10_set 42 = .ok (.ireturn, 1) := by decide +kernel
theorem dX10_set_43 : decode cX10_set 43 = .ok (.aload_n 0, 1) := by decide +kernel
theorem dX10_set_44 : decode cX10_set 44 = .ok (.getfield 10, 3) := by decide +kernel
theorem dX10_set_47 : decode cX10_set 47 = .ok (.getfield 108, 3) := by decide +kernel
theorem dX10_set_50 : decode cX10_set 50 = .ok (.iload_n 2, 1) := by decide +kernel
theorem dX10_set_51 : decode cX10_set 51 = .ok (.aaload, 1) := by decide +kernel
theorem dX10_set_52 : decode cX10_set 52 = .ok (.getfield 112, 3) := by decide +kernel
theorem dX10_set_55 : decode cX10_set 55 = .ok (.astore 4, 2) := by decide +kernel
theorem dX10_set_57 : decode cX10_set 57 = .ok (.aload 4, 2) := by decide +kernel
theorem dX10_set_59 : decode cX10_set 59 = .ok (.iload_n 1, 1) := by decide +kernel
theorem dX10_set_60 : decode cX10_set 60 = .ok (.iaload, 1) := by decide +kernel
theorem dX10_set_61 : decode cX10_set 61 = .ok (.istore 5, 2) := by decide +kernel
theorem dX10_set_63 : decode cX10_set 63 = .ok (.aload 4, 2) := by decide +kernel
theorem dX10_set_65 : decode cX10_set 65 = .ok (.iload_n 1, 1) := by decide +kernel
theorem dX10_set_66 : decode cX10_set 66 = .ok (.iload_n 3, 1) := by decide +kernel
theorem dX10_set_67 : decode cX10_set 67 = .ok (.iastore, 1) := by decide +kernel
theorem dX10_set_68 : decode cX10_set 68 = .ok (.aload_n 0, 1) := by decide +kernel
theorem dX10_set_69 : decode cX10_set 69 = .ok (.getfield 21, 3) := by decide +kernel
theorem dX10_set_72 : decode cX10_set 72 = .ok (.iconst 1, 1) := by decide +kernel
theorem dX10_set_73 : decode cX10_set 73 = .ok (.putfield 93, 3) := by decide +kernel
theorem dX10_set_76 : decode cX10_set 76 = .ok (.iload 5, 2) := by decide +kernel
theorem dX10_set_78 : decode cX10_set 78 = .ok (.ireturn, 1) := by decide +kernel
theorem dX10_told_0 : decode cX10_told 0 = .ok (.aload_n 0, 1) := by decide +kernel
theorem dX10_told_1 : decode cX10_told 1 = .ok (.getfield 10, 3) := by decide +kernel
theorem dX10_told_4 : decode cX10_told 4 = .ok (.iload_n 1, 1) := by decide +kernel
theorem dX10_told_5 : decode cX10_told 5 = .ok (.invokevirtual 118, 3) := by decide +kernel
theorem dX10_told_8 : decode cX10_told 8 = .ok (.ifCond .ne 6, 3) := by decide +kernel
theorem dX10_told_11 : decode cX10_told 11 = .ok (.bipush (-2), 2) := by decide +kernel
theorem dX10_told_13 : decode cX10_told 13 = .ok (.ireturn, 1) := by decide +kernel
theorem dX10_told_14 : decode cX10_told 14 = .ok (.aload_n 0, 1) := by decide +kernel
theorem dX10_told_15 : decode cX10_told 15 = .ok (.getfield 10, 3) := by decide +kernel
theorem dX10_told_18 : decode cX10_told 18 = .ok (.getfield 121, 3) := by decide +kernel
theorem dX10_told_21 : decode cX10_told 21 = .ok (.iload_n 1, 1) := by decide +kernel
theorem dX10_told_22 : decode cX10_told 22 = .ok (.aaload, 1) := by decide +kernel
theorem dX10_told_23 : decode cX10_told 23 = .ok (.astore_n 3, 1) := by decide +kernel
theorem dX10_told_24 : decode cX10_told 24 = .ok (.iload_n 2, 1) := by decide +kernel
theorem dX10_told_25 : decode cX10_told 25 = .ok (.tableswitch 87 0 7 #[47, 52, 57, 62, 67, 72, 77, 82], 47) := by decide +kernel
theorem dX10_told_72 : decode cX10_told 72 = .ok (.aload_n 3, 1) := by decide +kernel
theorem dX10_told_73 : decode cX10_told 73 = .ok (.getfield 125, 3) := by decide +kernel
theorem dX10_told_76 : decode cX10_told 76 = .ok (.ireturn, 1) := by decide +kernel
theorem dX10_told_77 : decode cX10_told 77 = .ok (.aload_n 3, 1) := by decide +kernel
theorem dX10_told_78 : decode cX10_told 78 = .ok (.getfield 130, 3) := by decide +kernel
theorem dX10_told_81 : decode cX10_told 81 = .ok (.ireturn, 1) := by decide +kernel
theorem dX10_told_82 : decode cX10_told 82 = .ok (.aload_n 3, 1) := by decide +kernel
theorem dX10_told_83 : decode cX10_told 83 = .ok (.getfield 133, 3) := by decide +kernel
theorem dX10_told_86 : decode cX10_told 86 = .ok (.ireturn, 1) := by decide +kernel
theorem dX10_told_87 : decode cX10_told 87 = .ok (.aload_n 3, 1) := by decide +kernel
theorem dX10_told_88 : decode cX10_told 88 = .ok (.getfield 136, 3) := by decide +kernel
theorem dX10_told_91 : decode cX10_told 91 = .ok (.ireturn, 1) := by decide +kernel
theorem dX10_told_92 : decode cX10_told 92 = .ok (.aload_n 3, 1) := by decide +kernel
theorem dX10_told_93 : decode cX10_told 93 = .ok (.getfield 139, 3) := by decide +kernel
theorem dX10_told_96 : decode cX10_told 96 = .ok (.ireturn, 1) := by decide +kernel
theorem dX10_told_97 : decode cX10_told 97 = .ok (.aload_n 3, 1) := by decide +kernel
theorem dX10_told_98 : decode cX10_told 98 = .ok (.getfield 142, 3) := by decide +kernel
theorem dX10_told_101 : decode cX10_told 101 = .ok (.ireturn, 1) := by decide +kernel
theorem dX10_told_102 : decode cX10_told 102 = .ok (.aload_n 3, 1) := by decide +kernel
theorem dX10_told_103 : decode cX10_told 103 = .ok (.getfield 145, 3) := by decide +kernel
theorem dX10_told_106 : decode cX10_told 106 = .ok (.ireturn, 1) := by decide +kernel
theorem dX10_told_107 : decode cX10_told 107 = .ok (.aload_n 3, 1) := by decide +kernel
theorem dX10_told_108 : decode cX10_told 108 = .ok (.getfield 148, 3) := by decide +kernel
theorem dX10_told_111 : decode cX10_told 111 = .ok (.ireturn, 1) := by decide +kernel
theorem dX10_told_112 : decode cX10_told 112 = .ok (.bipush (-2), 2) := by decide +kernel
theorem dX10_told_114 : decode cX10_told 114 = .ok (.ireturn, 1) := by decide +kernel
theorem dX10_feed_0 : decode cX10_feed 0 = .ok (.iload_n 1, 1) := by decide +kernel
theorem dX10_feed_1 : decode cX10_feed 1 = .ok (.ifCond .lt 10, 3) := by decide +kernel
theorem dX10_feed_4 : decode cX10_feed 4 = .ok (.iload_n 1, 1) := by decide +kernel
theorem dX10_feed_5 : decode cX10_feed 5 = .ok (.sipush 255, 3) := by decide +kernel
theorem dX10_feed_8 : decode cX10_feed 8 = .ok (.if_icmp .le 6, 3) := by decide +kernel
theorem dX10_feed_11 : decode cX10_feed 11 = .ok (.bipush (-2), 2) := by decide +kernel
theorem dX10_feed_13 : decode cX10_feed 13 = .ok (.ireturn, 1) := by decide +kernel
theorem dX10_feed_14 : decode cX10_feed 14 = .ok (.aload_n 0, 1) := by decide +kernel
theorem dX10_feed_15 : decode cX10_feed 15 = .ok (.getfield 28, 3) := by decide +kernel
theorem dX10_feed_18 : decode cX10_feed 18 = .ok (.iload_n 1, 1) := by decide +kernel
theorem dX10_feed_19 : decode cX10_feed 19 = .ok (.invokevirtual 65, 3) := by decide +kernel
theorem dX10_feed_22 : decode cX10_feed 22 = .ok (.ifCond .eq 13, 3) := by decide +kernel
theorem dX10_feed_25 : decode cX10_feed 25 = .ok (.aload_n 0, 1) := by decide +kernel
theorem dX10_feed_26 : decode cX10_feed 26 = .ok (.getfield 28, 3) := by decide +kernel
theorem dX10_feed_29 : decode cX10_feed 29 = .ok (.getfield 151, 3) := by decide +kernel
theorem dX10_feed_32 : decode cX10_feed 32 = .ok (.goto 5, 3) := by decide +kernel
theorem dX10_feed_35 : decode cX10_feed 35 = .ok (.bipush (-4), 2) := by decide +kernel
theorem dX10_feed_37 : decode cX10_feed 37 = .ok (.ireturn, 1) := by decide +kernel
theorem dX10_text_0 : decode cX10_text 0 = .ok (.aload_n 0, 1) := by decide +kernel
theorem dX10_text_1 : decode cX10_text 1 = .ok (.getfield 10, 3) := by decide +kernel
theorem dX10_text_4 : decode cX10_text 4 = .ok (.getfield 81, 3) := by decide +kernel
theorem dX10_text_7 : decode cX10_text 7 = .ok (.bipush 6, 2) := by decide +kernel
theorem dX10_text_9 : decode cX10_text 9 = .ok (.if_icmp .lt 6, 3) := by decide +kernel
theorem dX10_text_12 : decode cX10_text 12 = .ok (.bipush (-4), 2) := by decide +kernel
theorem dX10_text_14 : decode cX10_text 14 = .ok (.ireturn, 1) := by decide +kernel
theorem dX10_text_15 : decode cX10_text 15 = .ok (.new 69, 3) := by decide +kernel
theorem dX10_text_18 : decode cX10_text 18 = .ok (.dup, 1) := by decide +kernel
theorem dX10_text_19 : decode cX10_text 19 = .ok (.aload_n 0, 1) := by decide +kernel
theorem dX10_text_20 : decode cX10_text 20 = .ok (.getfield 28, 3) := by decide +kernel
theorem dX10_text_23 : decode cX10_text 23 = .ok (.aload_n 0, 1) := by decide +kernel
theorem dX10_text_24 : decode cX10_text 24 = .ok (.getfield 10, 3) := by decide +kernel
theorem dX10_text_27 : decode cX10_text 27 = .ok (.getfield 71, 3) := by decide +kernel
theorem dX10_text_30 : decode cX10_text 30 = .ok (.aload_n 0, 1) := by decide +kernel
theorem dX10_text_31 : decode cX10_text 31 = .ok (.getfield 10, 3) := by decide +kernel
theorem dX10_text_34 : decode cX10_text 34 = .ok (.getfield 81, 3) := by decide +kernel
theorem dX10_text_37 : decode cX10_text 37 = .ok (.aaload, 1) := by decide +kernel
theorem dX10_text_38 : decode cX10_text 38 = .ok (.invokespecial 75, 3) := by decide +kernel
theorem dX10_text_41 : decode cX10_text 41 = .ok (.invokevirtual 78, 3) := by decide +kernel
theorem dX10_text_44 : decode cX10_text 44 = .ok (.istore_n 1, 1) := by decide +kernel
theorem dX10_text_45 : decode cX10_text 45 = .ok (.iload_n 1, 1) := by decide +kernel
theorem dX10_text_46 : decode cX10_text 46 = .ok (.iconst (-1), 1) := by decide +kernel
theorem dX10_text_47 : decode cX10_text 47 = .ok (.if_icmp .eq 8, 3) := by decide +kernel
theorem dX10_text_50 : decode cX10_text 50 = .ok (.bipush (-100), 2) := by decide +kernel
theorem dX10_text_52 : decode cX10_text 52 = .ok (.iload_n 1, 1) := by decide +kernel
theorem dX10_text_53 : decode cX10_text 53 = .ok (.isub, 1) := by decide +kernel
theorem dX10_text_54 : decode cX10_text 54 = .ok (.ireturn, 1) := by decide +kernel
theorem dX10_text_55 : decode cX10_text 55 = .ok (.aload_n 0, 1) := by decide +kernel
theorem dX10_text_56 : decode cX10_text 56 = .ok (.getfield 10, 3) := by decide +kernel
theorem dX10_text_59 : decode cX10_text 59 = .ok (.dup, 1) := by decide +kernel
theorem dX10_text_60 : decode cX10_text 60 = .ok (.getfield 81, 3) := by decide +kernel
theorem dX10_text_63 : decode cX10_text 63 = .ok (.iconst 1, 1) := by decide +kernel
theorem dX10_text_64 : decode cX10_text 64 = .ok (.iadd, 1) := by decide +kernel
theorem dX10_text_65 : decode cX10_text 65 = .ok (.putfield 81, 3) := by decide +kernel
theorem dX10_text_68 : decode cX10_text 68 = .ok (.aload_n 0, 1) := by decide +kernel
theorem dX10_text_69 : decode cX10_text 69 = .ok (.getfield 10, 3) := by decide +kernel
theorem dX10_text_72 : decode cX10_text 72 = .ok (.getfield 81, 3) := by decide +kernel
theorem dX10_text_75 : decode cX10_text 75 = .ok (.iconst 1, 1) := by decide +kernel
theorem dX10_text_76 : decode cX10_text 76 = .ok (.isub, 1) := by decide +kernel
theorem dX10_text_77 : decode cX10_text 77 = .ok (.ireturn, 1) := by decide +kernel
theorem dX10_force_0 : decode cX10_force 0 = .ok (.iload_n 1, 1) := by decide +kernel
theorem dX10_force_1 : decode cX10_force 1 = .ok (.ifCond .lt 14, 3) := by decide +kernel
theorem dX10_force_4 : decode cX10_force 4 = .ok (.iload_n 1, 1) := by decide +kernel
theorem dX10_force_5 : decode cX10_force 5 = .ok (.aload_n 0, 1) := by decide +kernel
theorem dX10_force_6 : decode cX10_force 6 = .ok (.getfield 10, 3) := by decide +kernel
theorem dX10_force_9 : decode cX10_force 9 = .ok (.getfield 81, 3) := by decide +kernel
theorem dX10_force_12 : decode cX10_force 12 = .ok (.if_icmp .lt 6, 3) := by decide +kernel
theorem dX10_force_15 : decode cX10_force 15 = .ok (.bipush (-2), 2) := by decide +kernel
theorem dX10_force_17 : decode cX10_force 17 = .ok (.ireturn, 1) := by decide +kernel
theorem dX10_force_18 : decode cX10_force 18 = .ok (.aload_n 0, 1) := by decide +kernel
theorem dX10_force_19 : decode cX10_force 19 = .ok (.getfield 10, 3) := by decide +kernel
theorem dX10_force_22 : decode cX10_force 22 = .ok (.getfield 154, 3) := by decide +kernel
theorem dX10_force_25 : decode cX10_force 25 = .ok (.istore_n 2, 1) := by decide +kernel
theorem dX10_force_26 : decode cX10_force 26 = .ok (.aload_n 0, 1) := by decide +kernel
theorem dX10_force_27 : decode cX10_force 27 = .ok (.getfield 10, 3) := by decide +kernel
theorem dX10_force_30 : decode cX10_force 30 = .ok (.iload_n 1, 1) := by decide +kernel
theorem dX10_force_31 : decode cX10_force 31 = .ok (.putfield 154, 3) := by decide +kernel
theorem dX10_force_34 : decode cX10_force 34 = .ok (.aload_n 0, 1) := by decide +kernel
theorem dX10_force_35 : decode cX10_force 35 = .ok (.getfield 21, 3) := by decide +kernel
theorem dX10_force_38 : decode cX10_force 38 = .ok (.iconst 1, 1) := by decide +kernel
theorem dX10_force_39 : decode cX10_force 39 = .ok (.putfield 93, 3) := by decide +kernel
theorem dX10_force_42 : decode cX10_force 42 = .ok (.iload_n 2, 1) := by decide +kernel
theorem dX10_force_43 : decode cX10_force 43 = .ok (.ireturn, 1) := by decide +kernel
theorem dX10_lies_0 : decode cX10_lies 0 = .ok (.iload_n 1, 1) := by decide +kernel
theorem dX10_lies_1 : decode cX10_lies 1 = .ok (.invokestatic 157, 3) := by decide +kernel
theorem dX10_lies_4 : decode cX10_lies 4 = .ok (.ifCond .eq 15, 3) := by decide +kernel
theorem dX10_lies_7 : decode cX10_lies 7 = .ok (.aload_n 0, 1) := by decide +kernel
theorem dX10_lies_8 : decode cX10_lies 8 = .ok (.invokevirtual 160, 3) := by decide +kernel
theorem dX10_lies_11 : decode cX10_lies 11 = .ok (.getfield 164, 3) := by decide +kernel
theorem dX10_lies_14 : decode cX10_lies 14 = .ok (.iload_n 1, 1) := by decide +kernel
theorem dX10_lies_15 : decode cX10_lies 15 = .ok (.iaload, 1) := by decide +kernel
theorem dX10_lies_16 : decode cX10_lies 16 = .ok (.goto 5, 3) := by decide +kernel
theorem dX10_lies_19 : decode cX10_lies 19 = .ok (.bipush (-2), 2) := by decide +kernel
theorem dX10_lies_21 : decode cX10_lies 21 = .ok (.ireturn, 1) := by decide +kernel
theorem dX10_top_0 : decode cX10_top 0 = .ok (.iload_n 1, 1) := by decide +kernel
theorem dX10_top_1 : decode cX10_top 1 = .ok (.invokestatic 157, 3) := by decide +kernel
theorem dX10_top_4 : decode cX10_top 4 = .ok (.ifCond .ne 6, 3) := by decide +kernel
theorem dX10_top_7 : decode cX10_top 7 = .ok (.bipush (-2), 2) := by decide +kernel
theorem dX10_top_9 : decode cX10_top 9 = .ok (.ireturn, 1) := by decide +kernel
theorem dX10_top_10 : decode cX10_top 10 = .ok (.aload_n 0, 1) := by decide +kernel
theorem dX10_top_11 : decode cX10_top 11 = .ok (.invokevirtual 160, 3) := by decide +kernel
theorem dX10_top_14 : decode cX10_top 14 = .ok (.getfield 164, 3) := by decide +kernel
theorem dX10_top_17 : decode cX10_top 17 = .ok (.iload_n 1, 1) := by decide +kernel
theorem dX10_top_18 : decode cX10_top 18 = .ok (.iaload, 1) := by decide +kernel
theorem dX10_top_19 : decode cX10_top 19 = .ok (.istore_n 2, 1) := by decide +kernel
theorem dX10_top_20 : decode cX10_top 20 = .ok (.iconst (-1), 1) := by decide +kernel
theorem dX10_top_21 : decode cX10_top 21 = .ok (.istore_n 3, 1) := by decide +kernel
theorem dX10_top_22 : decode cX10_top 22 = .ok (.iconst 0, 1) := by decide +kernel
theorem dX10_top_23 : decode cX10_top 23 = .ok (.istore 4, 2) := by decide +kernel
theorem dX10_top_25 : decode cX10_top 25 = .ok (.iload 4, 2) := by decide +kernel
theorem dX10_top_27 : decode cX10_top 27 = .ok (.aload_n 0, 1) := by decide +kernel
theorem dX10_top_28 : decode cX10_top 28 = .ok (.getfield 10, 3) := by decide +kernel
theorem dX10_top_31 : decode cX10_top 31 = .ok (.getfield 167, 3) := by decide +kernel
theorem dX10_top_34 : decode cX10_top 34 = .ok (.if_icmp .ge 51, 3) := by decide +kernel
theorem dX10_top_37 : decode cX10_top 37 = .ok (.iload_n 2, 1) := by decide +kernel
theorem dX10_top_38 : decode cX10_top 38 = .ok (.iload 4, 2) := by decide +kernel
theorem dX10_top_40 : decode cX10_top 40 = .ok (.ishr, 1) := by decide +kernel
theorem dX10_top_41 : decode cX10_top 41 = .ok (.iconst 1, 1) := by decide +kernel
theorem dX10_top_42 : decode cX10_top 42 = .ok (.iand, 1) := by decide +kernel
theorem dX10_top_43 : decode cX10_top 43 = .ok (.ifCond .eq 7, 3) := by decide +kernel
theorem dX10_top_46 : decode cX10_top 46 = .ok (.iconst 1, 1) := by decide +kernel
theorem dX10_top_47 : decode cX10_top 47 = .ok (.goto 4, 3) := by decide +kernel
theorem dX10_top_50 : decode cX10_top 50 = .ok (.iconst 0, 1) := by decide +kernel
theorem dX10_top_51 : decode cX10_top 51 = .ok (.istore 5, 2) := by decide +kernel
theorem dX10_top_53 : decode cX10_top 53 = .ok (.iload 5, 2) := by decide +kernel
theorem dX10_top_55 : decode cX10_top 55 = .ok (.ifCond .eq 24, 3) := by decide +kernel
theorem dX10_top_58 : decode cX10_top 58 = .ok (.iload_n 3, 1) := by decide +kernel
theorem dX10_top_59 : decode cX10_top 59 = .ok (.iconst (-1), 1) := by decide +kernel
theorem dX10_top_60 : decode cX10_top 60 = .ok (.if_icmp .eq 16, 3) := by decide +kernel
theorem dX10_top_63 : decode cX10_top 63 = .ok (.aload_n 0, 1) := by decide +kernel
theorem dX10_top_64 : decode cX10_top 64 = .ok (.getfield 10, 3) := by decide +kernel
theorem dX10_top_67 : decode cX10_top 67 = .ok (.iload 4, 2) := by decide +kernel
theorem dX10_top_69 : decode cX10_top 69 = .ok (.iload_n 3, 1) := by decide +kernel
